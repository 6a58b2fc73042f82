/-! mornings, see: face to face -/
section S85
theorem bad3 {x : Int32} {t : Nat} (ht : t ≤ 60) (h : ¬ (x < e_n 1 ∨ e_n 20 < x)) : ∃ n : Nat, 1 ≤ n ∧ n ≤ 20 ∧ x = e_n (n : Nat) ∧ ((e_n 60 < e_n (t : Nat) + x) = (60 < t + n)) := by
  obtain ⟨a, h1, h2, rfl⟩ := e_n_toI x
  have h3 : ¬ e_n a < e_n 1 := fun q => h (Or.inl q)
  have h4 : ¬ e_n 20 < e_n a := fun q => h (Or.inr q)
  rw [e_n_lt (by omega) (by omega) (by omega) (by omega)] at h3
  rw [e_n_lt (by omega) (by omega) (by omega) (by omega)] at h4
  refine ⟨a.toNat, by omega, by omega, by congr 1; omega, ?_⟩
  rw [e_n_add, e_n_lt (by omega) (by omega) (by omega) (by omega)]
  apply propext; omega
theorem F127 {d : Nat} {c1 : Int32} {I : Nat → Nat → Int32} {z : e_Z} {B : e_B} (H : Rel I z B) {x : Int32} : Face d c1 I z 127 251 [.int x] := by
  have wb := rel_wb H
  have hb := B2_bd z.2.1.1
  have hbl := B2_le hb
  obtain ⟨t, ht, hday⟩ := rel_day H
  have hd : I 51 0 = e_n (t : Nat) := by rw [(rel_mc H).1]; exact hday
  have hno : (x < e_n 1 ∨ e_n 20 < x ∨ e_n 60 < e_n (t : Nat) + x) → Face d c1 I z 127 251 [.int x] := by
    intro hor
    refine refuse_face H (k := 1) (v := e_n (-1)) (by decide) (e_E_ret (d := d + 9) ?_) ?_
    · show e_L (d + 9) 127 0 [.ref 1, .int x] [] (mk I z) = _
      rw [C127_0, hd, w3_1]
      by_cases h1 : x < e_n 1
      · rw [if_pos h1]
      rw [if_neg h1]
      by_cases h2 : e_n 20 < x
      · rw [if_pos h2]
      rw [if_neg h2, if_pos ((hor.resolve_left h1).resolve_left h2)]
    · intro J z2 hq rb
      refine e_E_ret (d := d + 9) ?_
      show e_L (d + 9) 251 0 [.ref 489, .int x] [] (mk J z2) = _
      rw [C251_0, hq 515 (by decide), hday, c219k, e_rI_i, C251_33]
      by_cases h1 : x < e_n 1
      · rw [if_neg (fun h => h.1 h1)]
      by_cases h2 : e_n 20 < x
      · rw [if_neg (fun h => h.2 h2)]
      rw [if_pos ⟨h1, h2⟩, if_pos ((hor.resolve_left h1).resolve_left h2)]
  by_cases h1 : x < e_n 1 ∨ e_n 20 < x
  · exact hno (h1.elim (fun h => Or.inl h) (fun h => Or.inr (Or.inl h)))
  obtain ⟨m, hm1, hm2, rfl, h60⟩ := bad3 ht h1
  by_cases h2 : e_n 60 < e_n (t : Nat) + e_n (m : Nat)
  · exact hno (Or.inr (Or.inr h2))
  have htm : t + m ≤ 60 := by rw [h60] at h2; omega
  obtain ⟨n, hn, h56, hcs, hwa⟩ := rel_cs H
  have wm := rel_wm H
  -- the class
  obtain ⟨I1, e1, e2, e3⟩ := c97h (d := d + 6) (z := z) T2_50 wb wm hcs hn
  have hB1 : BrC I1 (bd z.2.1.1) B := BrC_fr (fun k _ _ _ _ _ => e3.1 _ (by omega) (by omega)) (rel_bc H)
  obtain ⟨I2, a1, a2, a3, a4, a5, a6⟩ := c12h (d := d + 6) (z := z) (s := z.2.1.1) wb wm e2.1
  obtain ⟨I3, b1, b2, b3, b4, b5, b6⟩ := ahead (d := d + 3) (z := z) (many := m) (sk := e_n (-1)) (cl := e_n (-1)) (sn := e_n (-1)) (sm := e_n (-1)) wb wm hB1 a2 a6 (by omega) ht hday (fun i hi h => absurd h.symm (e_n_neg1 (by omega))) (a4 2 (by decide) (by decide)) (a4 3 (by decide) (by decide)) (a4 4 (by decide) (by decide)) (a4 5 (by decide) (by decide))
  have hmin : min m (60 - t) = m := by omega
  rw [hmin] at b2 b3 b4
  rw [rn_mo _ _ _ _ _ _ (by omega)] at b2 b3 b4
  generalize hS : itr (moS B (e_n (-1))) m 0 (begS (I 515)) = S at b2 b3 b4
  obtain ⟨I4, d1, d2⟩ := c47h (d := d + 7) (I := I3) (z := zF z z.2.1.1) isMo_51 isMo_471 (by omega) (openM b3.1 b2.1)
  have hM4 : MoC I4 51 B (S 0) := Cpd_MoC wb d2 b2.1
  have f4 : ∀ r, (r < 51 ∨ 55 < r) → I4 r = I3 r := d2.2.2.2
  have q : ∀ s, 489 ≤ s → I4 s = I s := fun s hs => by rw [f4 s (by omega), b6 s (by omega) (by omega) (by omega), e3.1 s (by omega) (by omega)]
  refine ⟨.inl (e_n ((t + m : Nat) : Nat)), I4, zF z z.2.1.1, zs_F z, e_E_ret (d := d + 9) ?_, fun z2 hz => ?_⟩
  · show e_L (d + 9) 127 0 [.ref 1, .int (e_n (m : Nat))] [] (mk I z) = _
    rw [C127_0, hd, if_neg (fun h => h1 (Or.inl h)), if_neg (fun h => h1 (Or.inr h)), if_neg h2, e1, e_rV_n, C127_42, a1, e_rV_n, C127_60, b1, e_rV_n, C127_68, d1, e_rV_n, C127_85, hM4.1, b4]
  · have rb : RB (e_u I4 489 0 (e_n 0)) B := RB_0 (RB_fr (fun k _ _ => by rw [q 489 (by omega)]) (fun r h1 _ => q r (by omega)) (rel_rb H))
    obtain ⟨K, k1, k2, k3, k4, k5⟩ := c218h (d := d + 8) (I := e_u I4 489 0 (e_n 0)) (z := z2) (M := I 515) (A := fun k j => I 516 (34 * k + j)) (n := n) (fun j _ => by rw [K515 (by decide), q 515 (by decide)]) (by rw [e_u_ne (by decide), q 489 (by decide)]; exact h56) hn (fun k _ j _ => by rw [K515 (by decide), q 516 (by decide)])
    -- the reference's row and what else mornings leave
    have hRF : RF (e_u K 489 62 (e_n 0)) 515 (fun c => if c = 0 then I 515 else if c = 1 then K 520 else if c = 2 then K 521 else if c = 3 then K 519 else fun j => if j = 0 then e_n 0 else K 489 60) (if false then 30 else 0) := by
      refine ⟨fun j _ => ?_, ?_, ?_, fun j _ => ?_, fun p _ => ?_, fun m _ => ?_, fun k hk => ?_⟩
      · rw [e_u_na (by decide), k4 515 (by decide) (by decide), K515 (by decide), q 515 (by decide)]; rfl
      · rw [e_u_same]; rfl
      · rw [e_u_ne (by decide)]; rfl
      · rw [e_u_na (by decide)]; rfl
      · rw [e_u_na (by decide)]; rfl
      · rw [e_u_na (by decide)]; rfl
      · simp at hk
    have rbK : RB (e_u K 489 62 (e_n 0)) B := RB_fr (fun k h1 h7 => by rw [e_u_ne (by omega), k5 k (by omega)]) (fun r h1 h2 => by rw [e_u_na (by omega), k4 r (by omega) (by omega)]) rb
    obtain ⟨I5, g1, g2, g3, g4, g5, g6⟩ := c237h (d := d + 3) (r := 515) (f0 := 30) (m0 := m) (t := t) (tr := false) (z := z2) (sk := e_n (-1)) R2_515 wb (by omega) (by simp) htm rbK hRF ⟨wm, 0, rfl, by have := cnt_le (bPe B) (fun p => decide (I 515 (4 + p) = e_n (-1))); have : bPe B ≤ 9 := wb.2.2.2.1; show 0 + cnt (bPe B) (fun p => decide (I 515 (4 + p) = e_n (-1))) ≤ 9; omega⟩ (by rw [e_u_ne (by decide), k5 61 (by decide), e_u_ne (by decide), q 489 (by decide)]; exact H.2.2.2.1) hday
    have hrow : ∀ j, j < 34 → I5 515 j = S 0 j := by
      intro j hj
      rw [g2.1 j hj, ← hS]
      exact congrFun (itr_mo0 m 30 0 _ (begS (I 515)) (by rfl)) j
    refine ⟨I5, B, e_n ((t + m : Nat) : Nat), e_E_ret (d := d + 9) ?_, ?_, ?_, rfl⟩
    · show e_L (d + 9) 251 0 [.ref 489, .int (e_n (m : Nat))] [] (mk I4 z2) = _
      rw [C251_0, q 515 (by decide), hday, if_pos ⟨fun h => h1 (Or.inl h), fun h => h1 (Or.inr h)⟩, if_neg h2, k1, e_rV_n, C251_38, show (e_n 30) = e_n ((30 : Nat) : Nat) from rfl, g1, e_rV_n, C251_54, hrow 0 (by decide), b4]
    · refine act_end (I1 := I4) (M := S 0) (n := kn n) (A := kA n (I 515) (fun k j => I 516 (34 * k + j))) H (by rw [hz]; rfl) (CSt_now e2 hM4 ?_ ?_) ?_ ?_ (kn_le hn) b3.1 (wm_kA wm hwa hn) hrow ?_ ?_ ?_ ?_
      · rw [f4 50 (by omega), b6 50 (by omega) (by omega) (by omega)]
      · intro r h1 h2
        rw [f4 r (by omega), b6 r (by omega) (by omega) (by omega)]
      · intro r r1 r2 r3 r4
        have hr : r ≠ bd z.2.1.1 + 10 ∧ r ≠ bd z.2.1.1 + 11 ∧ (r < 470 ∨ 480 < r) := by unfold ScrC at r4; omega
        rw [f4 r (by omega), b6 r hr.1 hr.2.1 hr.2.2, e3.1 r r1 (by omega)]
      · rw [f4 50 (by omega), b6 50 (by omega) (by omega) (by omega), e3.2 4 (by decide) (by decide)]
      · rw [g6 56 (by decide) (by decide), e_u_ne (by decide)]; exact k2
      · intro k hk j hj
        rw [g5 516 (by decide) (by decide) (by decide) (by decide) (by decide) (by decide) (by decide) (by decide) (by decide) (by decide), e_u_na (by decide)]
        exact k3 k hk j hj
      · intro r r1 r2 r3 r4
        rw [g5 r r2 r1 (by unfold ScrR at r4; omega) (by unfold ScrR at r4; omega) (by unfold ScrR at r4; omega) (by unfold ScrR at r4; omega) (by unfold ScrR at r4; omega) (by unfold ScrR at r4; omega) (by unfold ScrR at r4; omega) (by unfold ScrR at r4; omega), e_u_na r1, k4 r r1 r3, e_u_na r1]
      · intro j j1 j2
        have hj : j ≠ 60 ∧ j ≠ 62 ∧ j ≠ 0 := by unfold ScrF at j2; omega
        rw [g6 j hj.1 hj.2.1, e_u_ne hj.2.1, k5 j j1, e_u_ne hj.2.2]
    · rw [g6 0 (by decide) (by decide), e_u_ne (by decide), k5 0 (by decide), e_u_same]
theorem F154 {d : Nat} {c1 : Int32} {I : Nat → Nat → Int32} {z : e_Z} {B : e_B} (H : Rel I z B) {x x2 x3 : Int32} (hx3 : x3 = e_n 0 ∨ x3 = e_n 1) : Face d c1 I z 154 277 [.int x, .int x2, .int x3] := by
  have wb := rel_wb H
  have wb4 : bPe B ≤ 9 := wb.2.2.2.1
  have hpc := (rel_bc H).2.2.2.1
  by_cases hm : x < 0 ∨ ¬ x < e_n (bPe B : Nat)
  · refine throw_p H ?_ ?_
    · rw [c154, hpc, if_pos hm]; rfl
    · intro J z2 HJ
      refine ⟨e_n 0, e_E_ret (d := d + 9) ?_⟩
      show e_L (d + 9) 277 0 [.ref 489, .int x, .int x2, .int x3] [] (mk J z2) = _
      rw [C277_0, c245n (RB_0 (rel_rb HJ)) K0 hm, e_rI_i, C277_10 (fun h => absurd (by decide) h) (fun h => absurd (by decide) h) (fun h => absurd (by decide) h) (fun h => absurd (by decide) h), if_pos (by decide)]
  obtain ⟨p, hp, rfl⟩ := in_n (by omega) hm
  obtain ⟨n, hn8, h4, h76, hse⟩ := rel_se H
  have hx33 : tf (¬ x3 = 0) = x3 := by rcases hx3 with h | h <;> rw [h] <;> decide
  have hlt8 : (e_n (n : Nat) < e_n 8) = (n < 8) := by rw [show (e_n 8) = e_n ((8 : Nat) : Nat) from rfl, e_n_ltN (by omega) (by omega)]
  have heq8 : (e_n (n : Nat) = e_n 8) = (n = 8) := by rw [e_n_inj (by omega) (by omega) (by omega) (by omega)]; apply propext; omega
  have h30 := most_n (x := x2) (k := 29) (by decide)
  have hcond : (¬ (x2 < e_n 0) ∧ ¬ (e_n 29 < x2)) = ¬ (x2 < 0 ∨ ¬ x2 < e_n ((30 : Nat) : Nat)) := by
    rw [show e_n ((30 : Nat) : Nat) = e_n ((29 + 1 : Nat) : Nat) from rfl, h30]
    apply propext
    constructor
    · rintro ⟨a, b⟩ (c | c)
      · exact a c
      · exact c b
    · intro c
      exact ⟨fun a => c (Or.inl a), fun b => c (Or.inr (fun q => q b))⟩
  by_cases hno : n = 8 ∨ (x2 < 0 ∨ ¬ x2 < e_n ((30 : Nat) : Nat))
  · refine refuse_face H (k := 2) (v := e_n (-1)) (by decide) ?_ ?_
    · rw [c154, hpc, if_neg hm, h4]
      rcases hno with h | h
      · rw [if_neg (fun q => by have := hlt8.mp q; omega), if_neg (fun q => by have := hlt8.mp q; omega), w3_2]
      · by_cases h8 : n < 8
        · rw [if_pos (hlt8.mpr h8), if_pos (hlt8.mpr h8)]
          rcases h with h | h
          · rw [if_pos h, if_pos h, w3_2]
          · by_cases h0 : x2 < 0
            · rw [if_pos h0, if_pos h0, w3_2]
            · have h' : ¬ x2 < e_n 30 := h
              rw [if_neg h0, if_neg h0, if_neg h', if_neg h', w3_2]
        · rw [if_neg (fun q => h8 (hlt8.mp q)), if_neg (fun q => h8 (hlt8.mp q)), w3_2]
    · intro J z2 hq rb
      refine e_E_ret (d := d + 9) ?_
      show e_L (d + 9) 277 0 [.ref 489, .int (e_n (p : Nat)), .int x2, .int x3] [] (mk J z2) = _
      have h76' : e_u J 489 0 (e_n 0) 489 76 = e_n (n : Nat) := by rw [e_u_ne (by decide), hq 489 (by decide)]; exact h76
      have r2 : e_E (d + 9) 219 [.ref 489, .int (e_n 2)] (mk (e_u J 489 0 (e_n 0)) z2) = some (.inl (some (.int (e_n (-1)))), mk (e_u (e_u J 489 0 (e_n 0)) 501 2 (J 501 2 + e_n 1)) z2) := by
        rw [c219 (InR_n (a := 2) (by decide) (by decide) (by decide)), nn2, e_u_na (show (501 : Nat) ≠ 489 by decide)]
      rw [C277_0, c245y rb K0 hm, e_rI_i, C277_10 (fun _ h h' => absurd (hno.elim (fun a => absurd (by rw [h76', heq8]; exact a) h) (fun a => a)) (hcond.mp h')) (fun _ h h' => absurd (hno.elim (fun a => absurd (by rw [h76', heq8]; exact a) h) (fun a => a)) (hcond.mp h')) (fun _ h h' => absurd (hno.elim (fun a => absurd (by rw [h76', heq8]; exact a) h) (fun a => a)) (hcond.mp h')) (fun _ h h' => absurd (hno.elim (fun a => absurd (by rw [h76', heq8]; exact a) h) (fun a => a)) (hcond.mp h')), if_neg (by decide), h76', r2, e_rI_i, C277_39]
      by_cases h8 : n = 8
      · rw [if_pos (heq8.mpr h8)]
      · rw [if_neg (fun q => h8 (heq8.mp q)), if_neg (fun h' => absurd (hno.resolve_left h8) (hcond.mp h'))]
  · have h8 : n < 8 := by omega
    have hx2 : ¬ (x2 < 0 ∨ ¬ x2 < e_n ((30 : Nat) : Nat)) := fun h => hno (Or.inr h)
    obtain ⟨i, hi, rfl⟩ := in_n (by decide) hx2
    have hi0 : ¬ e_n (i : Nat) < 0 := fun h => hx2 (Or.inl h)
    have hi30 : e_n (i : Nat) < e_n 30 := by rw [show (e_n 30) = e_n ((30 : Nat) : Nat) from rfl, e_n_ltN (by omega) (by omega)]; exact hi
    generalize hI1 : e_u (e_u (e_u (e_u I 57 n (e_n (p : Nat))) 58 n (e_n (i : Nat))) 59 n x3) 50 4 (e_n ((n + 1 : Nat) : Nat)) = I1
    refine ⟨.inl (e_n ((n + 1 : Nat) : Nat)), I1, z, zs_rf z, ?_, fun z2 hz => ?_⟩
    · rw [c154, hpc, if_neg hm, h4, if_pos (hlt8.mpr h8), if_neg hi0, if_pos hi30, e_n_succ, if_pos (hlt8.mpr h8), if_neg hi0, if_pos hi30, wr_N (r := 50 + 7) (k := n) h8, wr_N (r := 50 + 8) (k := n) h8, wr_N (r := 50 + 9) (k := n) h8, hx33, ← hI1]
      rfl
    · have q : ∀ s, 489 ≤ s → I1 s = I s := fun s hs => by rw [← hI1, e_u_na (by omega), e_u_na (by omega), e_u_na (by omega), e_u_na (by omega)]
      have rb : RB (e_u I1 489 0 (e_n 0)) B := RB_0 (RB_fr (fun k _ _ => by rw [q 489 (by omega)]) (fun r h1 _ => q r (by omega)) (rel_rb H))
      have h76' : e_u I1 489 0 (e_n 0) 489 76 = e_n (n : Nat) := by rw [e_u_ne (by decide), q 489 (by decide)]; exact h76
      have j0 : e_n 3 * e_n (n : Nat) = e_n ((3 * n : Nat) : Nat) := by rw [e_n_mul]; congr 1
      have j1 : e_n ((3 * n : Nat) : Nat) + e_n 1 = e_n ((3 * n + 1 : Nat) : Nat) := e_n_succ _
      have j2 : e_n ((3 * n : Nat) : Nat) + e_n 2 = e_n ((3 * n + 2 : Nat) : Nat) := by rw [e_n_add]; congr 1
      generalize hI2 : e_u (e_u (e_u (e_u (e_u I1 489 0 (e_n 0)) 532 (3 * n) (e_n (p : Nat))) 532 (3 * n + 1) (e_n (i : Nat))) 532 (3 * n + 2) x3) 489 76 (e_n ((n + 1 : Nat) : Nat)) = I2
      have s532 : ∀ j, I2 532 j = if j = 3 * n + 2 then x3 else if j = 3 * n + 1 then e_n (i : Nat) else if j = 3 * n then e_n (p : Nat) else I 532 j := by
        intro j
        rw [← hI2, e_u_na (by decide), e_u_at, e_u_at, e_u_at, e_u_na (by decide), q 532 (by decide)]
      have s489 : ∀ j, j ≠ 76 → j ≠ 0 → I2 489 j = I 489 j := by
        intro j a b
        rw [← hI2, e_u_ne a, e_u_na (by decide), e_u_na (by decide), e_u_na (by decide), e_u_ne b, q 489 (by decide)]
      have sr : ∀ r, r ≠ 489 → r ≠ 532 → I2 r = I1 r := by
        intro r a b
        rw [← hI2, e_u_na a, e_u_na b, e_u_na b, e_u_na b, e_u_na a]
      have sc : ∀ r, r ≠ 50 → r ≠ 57 → r ≠ 58 → r ≠ 59 → I1 r = I r := by
        intro r a b c e
        rw [← hI1, e_u_na a, e_u_na e, e_u_na c, e_u_na b]
      refine ⟨I2, B, e_n ((n + 1 : Nat) : Nat), e_E_ret (d := d + 9) ?_, ?_, ?_, rfl⟩
      · show e_L (d + 9) 277 0 [.ref 489, .int (e_n (p : Nat)), .int (e_n (i : Nat)), .int x3] [] (mk I1 z2) = _
        rw [C277_0, c245y rb K0 hm, e_rI_i, C277_10 (fun _ _ _ => by rw [h76', j0]; exact InR_n (by omega) (by omega) (by omega)) (fun _ _ _ => by rw [h76', j0, j1]; exact InR_n (by omega) (by omega) (by omega)) (fun _ _ _ _ => by rw [h76', j0, j2]; exact InR_n (by omega) (by omega) (by omega)) (fun _ _ _ _ => by rw [h76', j0, j2]; exact InR_n (by omega) (by omega) (by omega)), if_neg (by decide), h76', if_neg (fun q => by have := heq8.mp q; omega), if_pos (hcond.mpr hx2), e_n_succ, j0, j1, j2, e_n_nat' (by omega), e_n_nat' (by omega), e_n_nat' (by omega), hx33, hI2]
      · refine Rel_up H (by rw [hz]) ?_ ?_ ?_ ?_
        · intro r r1 r2 r3 r4 r5 r6 r7 r8 r9
          rw [sr r r1 r9, sc r (by omega) (by omega) (by omega) (by omega)]
        · intro j a b c
          exact s489 j c (fun e => a (by rw [e]; exact Or.inl rfl))
        · intro k hk
          rw [sr 3 (by decide) (by decide), sc 3 (by decide) (by decide) (by decide) (by decide), sr 501 (by decide) (by decide), sc 501 (by decide) (by decide) (by decide) (by decide)]
          exact H.2.2.2.2.2.2.2.1 k hk
        · obtain ⟨a1, a2, ⟨o, k0, a3, a4, a5, a6, a7, a8⟩, -⟩ := rel_st H
          have hlo : ∀ r, r ≠ 489 → r ≠ 532 → r ≠ 50 → r ≠ 57 → r ≠ 58 → r ≠ 59 → I2 r = I r := fun r x1 x2 x3 x4 x5 x6 => by rw [sr r x1 x2, sc r x3 x4 x5 x6]
          have c50 : ∀ j, j ≠ 4 → I2 50 j = I 50 j := by
            intro j hj
            rw [sr 50 (by decide) (by decide), ← hI1, e_u_ne hj, e_u_na (by decide), e_u_na (by decide), e_u_na (by decide)]
          refine ⟨?_, ?_, ⟨o, k0, a3, a4, by rw [c50 2 (by decide)]; exact a5, by rw [c50 3 (by decide)]; exact a6, by rw [s489 56 (by decide) (by decide)]; exact a7, fun k hk => ?_⟩, n + 1, by omega, ?_, ?_, ?_⟩
          · rw [hlo 515 (by decide) (by decide) (by decide) (by decide) (by decide) (by decide)]
            exact MoC_fr (fun k hk => hlo _ (by omega) (by omega) (by omega) (by omega) (by omega) (by omega)) a1
          · rw [hlo 515 (by decide) (by decide) (by decide) (by decide) (by decide) (by decide)]; exact a2
          · have hmd := Nat.mod_lt (o + k) (show 0 < 40 by decide)
            rw [hlo 516 (by decide) (by decide) (by decide) (by decide) (by decide) (by decide)]
            exact ⟨MoC_fr (fun j hj => hlo _ (by omega) (by omega) (by omega) (by omega) (by omega) (by omega)) (a8 k hk).1, (a8 k hk).2⟩
          · rw [sr 50 (by decide) (by decide), ← hI1, e_u_same]
          · rw [← hI2, e_u_same]
          · intro k hk
            have c57 : ∀ j, I2 57 j = if j = n then e_n (p : Nat) else I 57 j := by
              intro j
              rw [sr 57 (by decide) (by decide), ← hI1, e_u_na (by decide), e_u_na (by decide), e_u_na (by decide), e_u_at]
            have c58 : ∀ j, I2 58 j = if j = n then e_n (i : Nat) else I 58 j := by
              intro j
              rw [sr 58 (by decide) (by decide), ← hI1, e_u_na (by decide), e_u_na (by decide), e_u_at, e_u_na (by decide)]
            have c59 : ∀ j, I2 59 j = if j = n then x3 else I 59 j := by
              intro j
              rw [sr 59 (by decide) (by decide), ← hI1, e_u_na (by decide), e_u_at, e_u_na (by decide), e_u_na (by decide)]
            rw [show (50 + 7 : Nat) = 57 from rfl, show (50 + 8 : Nat) = 58 from rfl, show (50 + 9 : Nat) = 59 from rfl, c57, c58, c59, s532, s532, s532]
            by_cases hkn : k = n
            · subst hkn
              have a1 : ¬ 3 * k = 3 * k + 2 := by omega
              have a2 : ¬ 3 * k = 3 * k + 1 := by omega
              have a3 : ¬ 3 * k + 1 = 3 * k + 2 := by omega
              simp only [a1, a2, a3, eq_self, if_true, if_false]
              exact ⟨⟨trivial, p, hp, rfl⟩, ⟨trivial, i, hi, rfl⟩, trivial, hx3⟩
            · rw [if_neg hkn, if_neg hkn, if_neg hkn, if_neg (show ¬ 3 * k = 3 * n + 2 by omega), if_neg (show ¬ 3 * k = 3 * n + 1 by omega), if_neg (show ¬ 3 * k = 3 * n by omega), if_neg (show ¬ 3 * k + 1 = 3 * n + 2 by omega), if_neg (show ¬ 3 * k + 1 = 3 * n + 1 by omega), if_neg (show ¬ 3 * k + 1 = 3 * n by omega), if_neg (show ¬ 3 * k + 2 = 3 * n + 2 by omega), if_neg (show ¬ 3 * k + 2 = 3 * n + 1 by omega), if_neg (show ¬ 3 * k + 2 = 3 * n by omega)]
              exact hse k (by omega)
      · rw [← hI2, e_u_ne (by decide), e_u_na (by decide), e_u_na (by decide), e_u_na (by decide), e_u_same]
end S85
