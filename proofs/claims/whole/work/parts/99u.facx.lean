/-! faces of calls that throw nothing -/
section S99u
theorem act_faceX {d y y' : Nat} {c1 : Int32} {as : List Value} {I : Nat → Nat → Int32} {z : e_Z} {B : e_B} {v : Int32} {M' : Nat → Int32} (H : Rel I z B) (wm' : WM B M')
    (hc : ∀ I1, e_E (d + 9) 97 [.ref 50] (mk I z) = some (.inl none, mk I1 z) → MoC I1 51 B (I 515) → CAf 50 I I1 → ∃ I2, e_E (d + 10) y (.ref 1 :: as) (mk I z) = some (.inl (some (.int v)), mk I2 z) ∧ MoC I2 51 B M' ∧ ∀ r, ¬ (51 ≤ r ∧ r ≤ 55) → I2 r = I1 r)
    (hr : ∀ (J K : Nat → Nat → Int32) (z2 : e_Z), (∀ s, 489 ≤ s → J s = I s) → RB (e_u J 489 0 (e_n 0)) B → e_E (d + 9) 218 [.ref 489] (mk (e_u J 489 0 (e_n 0)) z2) = some (.inl none, mk K z2) → (∀ r, r ≠ 489 → r ≠ 516 → K r = J r) → (∀ j, j ≠ 56 → K 489 j = e_u J 489 0 (e_n 0) 489 j) → ∃ I2, e_E (d + 10) y' (.ref 489 :: as) (mk J z2) = some (.inl (some (.int v)), mk I2 z2) ∧ (∀ j, j < 34 → I2 515 j = M' j) ∧ (∀ r, r ≠ 515 → I2 r = K r)) : FaceX (fun _ => False) d c1 I z y y' as := by
  obtain ⟨n, hn, h56, hcs, hwa⟩ := rel_cs H
  have wb := rel_wb H
  have wm := rel_wm H
  obtain ⟨I1, e1, e2, e3⟩ := c97h (d := d + 6) (z := z) T2_50 wb wm hcs hn
  obtain ⟨I2, g1, g2, g3⟩ := hc I1 e1 e2.1 e3
  refine ⟨.inl v, I2, z, zs_rf z, g1, (fun e h => by cases h), fun z2 hz => ?_⟩
  have q : ∀ s, 489 ≤ s → I2 s = I s := fun s hs => by rw [g3 s (by omega), e3.1 s (by omega) (by omega)]
  have rb : RB (e_u I2 489 0 (e_n 0)) B := RB_0 (RB_fr (fun k _ _ => by rw [q 489 (by omega)]) (fun r h1 _ => q r (by omega)) (rel_rb H))
  obtain ⟨K, k1, k2, k3, k4, k5⟩ := c218h (d := d + 8) (I := e_u I2 489 0 (e_n 0)) (z := z2) (M := I 515) (A := fun k j => I 516 (34 * k + j)) (n := n) (fun j _ => by rw [K515 (by decide), q 515 (by decide)]) (by rw [e_u_ne (by decide), q 489 (by decide)]; exact h56) hn (fun k _ j _ => by rw [K515 (by decide), q 516 (by decide)])
  obtain ⟨I3, f1, f2, f3⟩ := hr I2 K z2 q rb k1 (fun r h1 h2 => by rw [k4 r h1 h2, e_u_na h1]) k5
  refine ⟨I3, B, v, f1, ?_, ?_, rfl⟩
  · refine act_end (I1 := I2) (M := M') (n := kn n) (A := kA n (I 515) (fun k j => I 516 (34 * k + j))) H (by rw [hz]) (CSt_now e2 g2 (g3 50 (by omega)) (fun r _ _ => g3 r (by omega))) ?_ ?_ (kn_le hn) wm' (wm_kA wm hwa hn) f2 ?_ ?_ ?_ ?_
    · intro r h1 h2 h3 _
      rw [g3 r h2, e3.1 r h1 (by omega)]
    · rw [g3 50 (by omega), e3.2 4 (by decide) (by decide)]
    · rw [f3 489 (by decide)]; exact k2
    · rw [f3 516 (by decide)]; exact k3
    · intro r h1 h2 h3 _
      rw [f3 r h2, k4 r h1 h3, e_u_na h1]
    · intro j h1 h2
      rw [f3 489 (by decide), k5 j h1, e_u_ne (fun e => h2 (by rw [e]; exact Or.inl rfl))]
  · rw [f3 489 (by decide), k5 0 (by decide), e_u_same]
theorem refuse_faceX {d y y' k : Nat} {c1 : Int32} {as : List Value} {I : Nat → Nat → Int32} {z : e_Z} {B : e_B} {v : Int32} (H : Rel I z B) (hk : k < 3)
    (hc : e_E (d + 10) y (.ref 1 :: as) (mk I z) = some (.inl (some (.int v)), mk (e_u I 3 k (I 3 k + e_n 1)) z))
    (hr : ∀ (J : Nat → Nat → Int32) (z2 : e_Z), (∀ s, 489 ≤ s → J s = I s) → RB (e_u J 489 0 (e_n 0)) B → e_E (d + 10) y' (.ref 489 :: as) (mk J z2) = some (.inl (some (.int v)), mk (e_u (e_u J 489 0 (e_n 0)) 501 k (J 501 k + e_n 1)) z2)) : FaceX (fun _ => False) d c1 I z y y' as := by
  refine ⟨.inl v, _, z, zs_rf z, hc, (fun e h => by cases h), fun z2 hz => ?_⟩
  have q : ∀ s, 489 ≤ s → e_u I 3 k (I 3 k + e_n 1) s = I s := fun s hs => e_u_na (by omega)
  have rb : RB (e_u (e_u I 3 k (I 3 k + e_n 1)) 489 0 (e_n 0)) B := RB_0 (RB_fr (fun k _ _ => by rw [q 489 (by omega)]) (fun r h1 _ => q r (by omega)) (rel_rb H))
  refine ⟨_, B, v, hr _ z2 q rb, ?_, ?_, rfl⟩
  · refine ref_end H (by rw [hz]) hk ?_ ?_ ?_ ?_
    · rw [e_u_na (by decide), e_u_na (by decide)]
    · funext j
      simp (disch := decide) only [e_u_na, e_u_at]
    · intro r h1 h2 h3
      rw [e_u_na h3, e_u_na h1, e_u_na h2]
    · intro j hj
      rw [e_u_na (by decide), e_u_ne (fun e => hj (by rw [e]; exact Or.inl rfl)), e_u_na (by decide)]
  · rw [e_u_na (by decide), e_u_same]
theorem X131 {d : Nat} {c1 : Int32} {I : Nat → Nat → Int32} {z : e_Z} {B : e_B} (H : Rel I z B) {x : Int32} (hx : x = e_n 0 ∨ x = e_n 1) : FaceX (fun _ => False) d c1 I z 131 257 [.int x] := by
  have wb := rel_wb H
  have h3 := (rel_wm H).2.2.2.1
  have ho : I 51 4 = I 515 3 := (rel_mc H).2.2.2.2.1
  have htf : tf (I 515 3 = e_n 1) = I 515 3 := by rcases h3 with h | h <;> rw [h] <;> decide
  by_cases he : I 515 3 = x
  · refine refuse_faceX H (k := 1) (v := e_n 0) (by decide) (e_E_ret (d := d + 9) ?_) ?_
    · show e_L (d + 9) 131 0 [.ref 1, .int x] [] (mk I z) = _
      rw [C131_0, ho, if_pos he, w3_1]
    · intro J z2 hq rb
      refine e_E_ret (d := d + 9) ?_
      show e_L (d + 9) 257 0 [.ref 489, .int x] [] (mk J z2) = _
      rw [C257_0, hq 515 (by decide), htf, if_pos he, c219k, e_rI_i, C257_29, show tf (0 < e_n (-1)) = e_n 0 from by decide]
  · have hx2 : tf (¬ x = 0) = x := by rcases hx with h | h <;> rw [h] <;> decide
    refine act_faceX H (M' := fun j => if j = 3 then x else I 515 j) (v := e_n 1) (wm_opn hx (rel_wm H)) ?_ ?_
    · intro I1 e1 hM1 hA
      refine ⟨_, e_E_ret (d := d + 9) ?_, MoC_opn (v := x) wb hM1, ?_⟩
      · show e_L (d + 9) 131 0 [.ref 1, .int x] [] (mk I z) = _
        rw [C131_0, ho, if_neg he, e1, e_rV_n, C131_28 (by rcases hx with h | h <;> rw [h] <;> decide)]
      · intro r hr
        rw [e_u_na (by omega)]
    · intro J K z2 hq rb k1 k4 k5
      refine ⟨e_u K 515 3 x, e_E_ret (d := d + 9) ?_, ?_, ?_⟩
      · show e_L (d + 9) 257 0 [.ref 489, .int x] [] (mk J z2) = _
        rw [C257_0, hq 515 (by decide), htf, if_neg he, k1, e_rV_n, C257_42, hx2]
      · intro j hj
        rw [e_u_at, k4 515 (by decide) (by decide), hq 515 (by decide)]
      · intro r hr
        rw [e_u_na hr]
theorem X132 {d : Nat} {c1 : Int32} {I : Nat → Nat → Int32} {z : e_Z} {B : e_B} (H : Rel I z B) : FaceX (fun _ => False) d c1 I z 132 220 [] := by
  have wb := rel_wb H
  obtain ⟨n, hn, h56, hcs, hwa⟩ := rel_cs H
  have h3 : I 50 3 = e_n (n : Nat) := by obtain ⟨-, o, -, -, h, -⟩ := hcs; exact h
  cases n with
  | zero =>
    refine face_rdX H (r := .inl (e_n (-1))) (I1 := I) (zs_rf z) rfl (e_E_ret (d := d + 9) ?_) (fun _ _ => rfl) ?_
    · show e_L (d + 9) 132 0 [.ref 1] [] (mk I z) = _
      rw [C132_0, h3, if_pos (by decide)]
    · intro J z2 HJ hq
      refine ⟨_, e_n (-1), e_E_ret (d := d + 9) ?_, RfE_0 (v := e_n 0), e_u_same, rfl⟩
      show e_L (d + 9) 220 0 [.ref 489, .null] [] (mk J z2) = _
      rw [C220_0, hq 489 (by decide), h56, if_pos (by decide)]
  | succ n =>
    obtain ⟨I1, e1, e2, e3, e4⟩ := c98h (d := d + 6) (z := z) T2_50 wb hcs (hwa n (by omega)) (by omega)
    refine ⟨.inl (e_n (n : Nat)), I1, z, zs_rf z, e_E_ret (d := d + 9) ?_, (fun e h => by cases h), fun z2 hz => ?_⟩
    · show e_L (d + 9) 132 0 [.ref 1] [] (mk I z) = _
      have h31 : I1 50 3 = e_n (n : Nat) := by obtain ⟨-, o, -, -, h, -⟩ := e2; exact h
      rw [C132_0, h3, if_neg (by rw [show (0 : Int32) = e_n ((0 : Nat) : Nat) from rfl, e_n_inj (by omega) (by omega) (by omega) (by omega)]; omega), e1, e_rV_n, C132_19, h31]
    · have q : ∀ s, 489 ≤ s → I1 s = I s := fun s hs => e3 s (by omega)
      generalize hG : e_u (e_u I1 489 0 (e_n 0)) 489 56 (e_n (n : Nat)) = G
      have G56 : G 489 56 = e_n (n : Nat) := by rw [← hG, e_u_same]
      have G516 : G 516 = I 516 := by rw [← hG, e_u_na (by decide), e_u_na (by decide), q 516 (by decide)]
      have loop : ∀ (k x : Nat) (K : Nat → Nat → Int32), x + k = 34 → K = upR G 515 (fun j => if j < x then I 516 (34 * n + j) else G 515 j) → e_L (d + 9) 220 26 [.ref 489, .int (e_n (x : Nat))] [] (mk K z2) = some (.inl (some (.int (e_n (n : Nat)))), mk (upR G 515 (fun j => if j < 34 then I 516 (34 * n + j) else G 515 j)) z2) := by
        intro k
        induction k with
        | zero =>
          intro x K hx hK
          have : x = 34 := by omega
          subst this
          rw [C220_26 (fun h => absurd h (by decide)) (fun h => absurd h (by decide)), if_neg (by decide), hK, upR_ne (by decide), G56]
        | succ k ih =>
          intro x K hx hK
          have hK56 : K 489 56 = e_n (n : Nat) := by rw [hK, upR_ne (by decide)]; exact G56
          have hix : e_n 34 * e_n (n : Nat) + e_n (x : Nat) = e_n ((34 * n + x : Nat) : Nat) := by rw [e_n_mul, e_n_add]; congr 1
          rw [C220_26 (fun _ => by rw [hK56, hix]; exact InR_n (by omega) (by omega) (by omega)) (fun _ => InR_n (by omega) (by omega) (by omega)), if_pos (by rw [show (e_n 34) = e_n ((34 : Nat) : Nat) from rfl, e_n_ltN (by omega) (by omega)]; omega), hK56, hix, e_n_nat' (by omega), e_n_nat' (by omega), e_n_succ]
          refine ih (x + 1) _ (by omega) ?_
          rw [hK, upR_ne (show (516 : Nat) ≠ 515 by decide), G516, e_u_up, upR_up, upR_same]
          congr 1
          funext j
          by_cases h : j = x
          · rw [if_pos h, if_pos (by omega), h]
          · rw [if_neg h]
            have : (j < x + 1) = (j < x) := by apply propext; omega
            simp only [this]
      refine ⟨upR G 515 (fun j => if j < 34 then I 516 (34 * n + j) else G 515 j), B, e_n (n : Nat), e_E_ret (d := d + 9) ?_, ?_, ?_, rfl⟩
      · show e_L (d + 9) 220 0 [.ref 489, .null] [] (mk I1 z2) = _
        have hn1 : e_n ((n + 1 : Nat) : Nat) - e_n 1 = e_n (n : Nat) := by rw [e_n_sub]; congr 1; omega
        rw [C220_0, q 489 (by decide), h56, if_neg (by rw [show (0 : Int32) = e_n ((0 : Nat) : Nat) from rfl, e_n_inj (by omega) (by omega) (by omega) (by omega)]; omega), hn1]
        rw [hG]
        exact loop 34 0 G (by decide) (by rw [upR_id (by intro j; rw [if_neg (by omega)])])
      · refine act_end (I1 := I1) (M := fun j => I 516 (34 * n + j)) (n := n) (A := fun k j => I 516 (34 * k + j)) H (by rw [hz]) e2 ?_ (e4 4 (by decide)) (by omega) (hwa n (by omega)) (fun k hk => hwa k (by omega)) ?_ ?_ ?_ ?_ ?_
        · intro r h1 h2 h3 _
          exact e3 r (by omega)
        · intro j hj
          rw [upR_same, if_pos hj]
        · rw [upR_ne (by decide)]; exact G56
        · intro k hk j hj
          rw [upR_ne (by decide), G516]
        · intro r h1 h2 h3 _
          rw [upR_ne h2, ← hG, e_u_na h1, e_u_na h1]
        · intro j h1 h2
          rw [upR_ne (by decide), ← hG, e_u_ne h1, e_u_ne (fun e => h2 (by rw [e]; exact Or.inl rfl))]
      · rw [upR_ne (by decide), ← hG, e_u_ne (by decide), e_u_same]
theorem X127 {d : Nat} {c1 : Int32} {I : Nat → Nat → Int32} {z : e_Z} {B : e_B} (H : Rel I z B) {x : Int32} : FaceX (fun _ => False) d c1 I z 127 251 [.int x] := by
  have wb := rel_wb H
  have hb := B2_bd z.2.1.1
  have hbl := B2_le hb
  obtain ⟨t, ht, hday⟩ := rel_day H
  have hd : I 51 0 = e_n (t : Nat) := by rw [(rel_mc H).1]; exact hday
  have hno : (x < e_n 1 ∨ e_n 20 < x ∨ e_n 60 < e_n (t : Nat) + x) → FaceX (fun _ => False) d c1 I z 127 251 [.int x] := by
    intro hor
    refine refuse_faceX H (k := 1) (v := e_n (-1)) (by decide) (e_E_ret (d := d + 9) ?_) ?_
    · show e_L (d + 9) 127 0 [.ref 1, .int x] [] (mk I z) = _
      rw [C127_0, hd, w3_1]
      by_cases h1 : x < e_n 1
      · rw [if_pos h1]
      rw [if_neg h1]
      by_cases h2 : e_n 20 < x
      · rw [if_pos h2]
      rw [if_neg h2, if_pos ((hor.resolve_left h1).resolve_left h2)]
    · intro J z2 hq rb
      refine e_E_ret (d := d + 9) ?_
      show e_L (d + 9) 251 0 [.ref 489, .int x] [] (mk J z2) = _
      rw [C251_0, hq 515 (by decide), hday, c219k, e_rI_i, C251_33]
      by_cases h1 : x < e_n 1
      · rw [if_neg (fun h => h.1 h1)]
      by_cases h2 : e_n 20 < x
      · rw [if_neg (fun h => h.2 h2)]
      rw [if_pos ⟨h1, h2⟩, if_pos ((hor.resolve_left h1).resolve_left h2)]
  by_cases h1 : x < e_n 1 ∨ e_n 20 < x
  · exact hno (h1.elim (fun h => Or.inl h) (fun h => Or.inr (Or.inl h)))
  obtain ⟨m, hm1, hm2, rfl, h60⟩ := bad3 ht h1
  by_cases h2 : e_n 60 < e_n (t : Nat) + e_n (m : Nat)
  · exact hno (Or.inr (Or.inr h2))
  have htm : t + m ≤ 60 := by rw [h60] at h2; omega
  obtain ⟨n, hn, h56, hcs, hwa⟩ := rel_cs H
  have wm := rel_wm H
  -- the class
  obtain ⟨I1, e1, e2, e3⟩ := c97h (d := d + 6) (z := z) T2_50 wb wm hcs hn
  have hB1 : BrC I1 (bd z.2.1.1) B := BrC_fr (fun k _ _ _ _ _ => e3.1 _ (by omega) (by omega)) (rel_bc H)
  obtain ⟨I2, a1, a2, a3, a4, a5, a6⟩ := c12h (d := d + 6) (z := z) (s := z.2.1.1) wb wm e2.1
  obtain ⟨I3, b1, b2, b3, b4, b5, b6⟩ := ahead (d := d + 3) (z := z) (many := m) (sk := e_n (-1)) (cl := e_n (-1)) (sn := e_n (-1)) (sm := e_n (-1)) wb wm hB1 a2 a6 (by omega) ht hday (fun i hi h => absurd h.symm (e_n_neg1 (by omega))) (a4 2 (by decide) (by decide)) (a4 3 (by decide) (by decide)) (a4 4 (by decide) (by decide)) (a4 5 (by decide) (by decide))
  have hmin : min m (60 - t) = m := by omega
  rw [hmin] at b2 b3 b4
  rw [rn_mo _ _ _ _ _ _ (by omega)] at b2 b3 b4
  generalize hS : itr (moS B (e_n (-1))) m 0 (begS (I 515)) = S at b2 b3 b4
  obtain ⟨I4, d1, d2⟩ := c47h (d := d + 7) (I := I3) (z := zF z z.2.1.1) isMo_51 isMo_471 (by omega) (openM b3.1 b2.1)
  have hM4 : MoC I4 51 B (S 0) := Cpd_MoC wb d2 b2.1
  have f4 : ∀ r, (r < 51 ∨ 55 < r) → I4 r = I3 r := d2.2.2.2
  have q : ∀ s, 489 ≤ s → I4 s = I s := fun s hs => by rw [f4 s (by omega), b6 s (by omega) (by omega) (by omega), e3.1 s (by omega) (by omega)]
  refine ⟨.inl (e_n ((t + m : Nat) : Nat)), I4, zF z z.2.1.1, zs_F z, e_E_ret (d := d + 9) ?_, (fun e h => by cases h), fun z2 hz => ?_⟩
  · show e_L (d + 9) 127 0 [.ref 1, .int (e_n (m : Nat))] [] (mk I z) = _
    rw [C127_0, hd, if_neg (fun h => h1 (Or.inl h)), if_neg (fun h => h1 (Or.inr h)), if_neg h2, e1, e_rV_n, C127_42, a1, e_rV_n, C127_60, b1, e_rV_n, C127_68, d1, e_rV_n, C127_85, hM4.1, b4]
  · have rb : RB (e_u I4 489 0 (e_n 0)) B := RB_0 (RB_fr (fun k _ _ => by rw [q 489 (by omega)]) (fun r h1 _ => q r (by omega)) (rel_rb H))
    obtain ⟨K, k1, k2, k3, k4, k5⟩ := c218h (d := d + 8) (I := e_u I4 489 0 (e_n 0)) (z := z2) (M := I 515) (A := fun k j => I 516 (34 * k + j)) (n := n) (fun j _ => by rw [K515 (by decide), q 515 (by decide)]) (by rw [e_u_ne (by decide), q 489 (by decide)]; exact h56) hn (fun k _ j _ => by rw [K515 (by decide), q 516 (by decide)])
    -- the reference's row and what else mornings leave
    have hRF : RF (e_u K 489 62 (e_n 0)) 515 (fun c => if c = 0 then I 515 else if c = 1 then K 520 else if c = 2 then K 521 else if c = 3 then K 519 else fun j => if j = 0 then e_n 0 else K 489 60) (if false then 30 else 0) := by
      refine ⟨fun j _ => ?_, ?_, ?_, fun j _ => ?_, fun p _ => ?_, fun m _ => ?_, fun k hk => ?_⟩
      · rw [e_u_na (by decide), k4 515 (by decide) (by decide), K515 (by decide), q 515 (by decide)]; rfl
      · rw [e_u_same]; rfl
      · rw [e_u_ne (by decide)]; rfl
      · rw [e_u_na (by decide)]; rfl
      · rw [e_u_na (by decide)]; rfl
      · rw [e_u_na (by decide)]; rfl
      · simp at hk
    have rbK : RB (e_u K 489 62 (e_n 0)) B := RB_fr (fun k h1 h7 => by rw [e_u_ne (by omega), k5 k (by omega)]) (fun r h1 h2 => by rw [e_u_na (by omega), k4 r (by omega) (by omega)]) rb
    obtain ⟨I5, g1, g2, g3, g4, g5, g6⟩ := c237h (d := d + 3) (r := 515) (f0 := 30) (m0 := m) (t := t) (tr := false) (z := z2) (sk := e_n (-1)) R2_515 wb (by omega) (by simp) htm rbK hRF ⟨wm, 0, rfl, by have := cnt_le (bPe B) (fun p => decide (I 515 (4 + p) = e_n (-1))); have : bPe B ≤ 9 := wb.2.2.2.1; show 0 + cnt (bPe B) (fun p => decide (I 515 (4 + p) = e_n (-1))) ≤ 9; omega⟩ (by rw [e_u_ne (by decide), k5 61 (by decide), e_u_ne (by decide), q 489 (by decide)]; exact H.2.2.2.1) hday
    have hrow : ∀ j, j < 34 → I5 515 j = S 0 j := by
      intro j hj
      rw [g2.1 j hj, ← hS]
      exact congrFun (itr_mo0 m 30 0 _ (begS (I 515)) (by rfl)) j
    refine ⟨I5, B, e_n ((t + m : Nat) : Nat), e_E_ret (d := d + 9) ?_, ?_, ?_, rfl⟩
    · show e_L (d + 9) 251 0 [.ref 489, .int (e_n (m : Nat))] [] (mk I4 z2) = _
      rw [C251_0, q 515 (by decide), hday, if_pos ⟨fun h => h1 (Or.inl h), fun h => h1 (Or.inr h)⟩, if_neg h2, k1, e_rV_n, C251_38, show (e_n 30) = e_n ((30 : Nat) : Nat) from rfl, g1, e_rV_n, C251_54, hrow 0 (by decide), b4]
    · refine act_end (I1 := I4) (M := S 0) (n := kn n) (A := kA n (I 515) (fun k j => I 516 (34 * k + j))) H (by rw [hz]; rfl) (CSt_now e2 hM4 ?_ ?_) ?_ ?_ (kn_le hn) b3.1 (wm_kA wm hwa hn) hrow ?_ ?_ ?_ ?_
      · rw [f4 50 (by omega), b6 50 (by omega) (by omega) (by omega)]
      · intro r h1 h2
        rw [f4 r (by omega), b6 r (by omega) (by omega) (by omega)]
      · intro r r1 r2 r3 r4
        have hr : r ≠ bd z.2.1.1 + 10 ∧ r ≠ bd z.2.1.1 + 11 ∧ (r < 470 ∨ 480 < r) := by unfold ScrC at r4; omega
        rw [f4 r (by omega), b6 r hr.1 hr.2.1 hr.2.2, e3.1 r r1 (by omega)]
      · rw [f4 50 (by omega), b6 50 (by omega) (by omega) (by omega), e3.2 4 (by decide) (by decide)]
      · rw [g6 56 (by decide) (by decide), e_u_ne (by decide)]; exact k2
      · intro k hk j hj
        rw [g5 516 (by decide) (by decide) (by decide) (by decide) (by decide) (by decide) (by decide) (by decide) (by decide) (by decide), e_u_na (by decide)]
        exact k3 k hk j hj
      · intro r r1 r2 r3 r4
        rw [g5 r r2 r1 (by unfold ScrR at r4; omega) (by unfold ScrR at r4; omega) (by unfold ScrR at r4; omega) (by unfold ScrR at r4; omega) (by unfold ScrR at r4; omega) (by unfold ScrR at r4; omega) (by unfold ScrR at r4; omega) (by unfold ScrR at r4; omega), e_u_na r1, k4 r r1 r3, e_u_na r1]
      · intro j j1 j2
        have hj : j ≠ 60 ∧ j ≠ 62 ∧ j ≠ 0 := by unfold ScrF at j2; omega
        rw [g6 j hj.1 hj.2.1, e_u_ne hj.2.1, k5 j j1, e_u_ne hj.2.2]
    · rw [g6 0 (by decide) (by decide), e_u_ne (by decide), k5 0 (by decide), e_u_same]
theorem X134 {d : Nat} {c1 : Int32} {I : Nat → Nat → Int32} {z : e_Z} {B : e_B} (H : Rel I z B) : FaceX (fun _ => False) d c1 I z 134 295 [] := by
  have wb := rel_wb H
  have h9 : I 1 9 = I 489 81 := H.2.2.2.2.2.2.2.2.2.1.1
  have him := H.2.2.2.2.2.2.2.2.2.2
  by_cases h0 : I 489 81 = 0
  · refine face_rdX H (r := .inl (e_n 0)) (I1 := I) (zs_rf z) rfl (e_E_ret (d := d + 9) ?_) (fun _ _ => rfl) ?_
    · show e_L (d + 9) 134 0 [.ref 1] [] (mk I z) = _
      rw [C134_0, h9, if_pos h0]
    · intro J z2 HJ hq
      refine ⟨_, e_n 0, e_E_ret (d := d + 9) ?_, RfE_0 (v := e_n 0), e_u_same, rfl⟩
      show e_L (d + 9) 295 0 [.ref 489] [] (mk J z2) = _
      rw [C295_0, hq 489 (by decide), if_pos h0]
  · obtain ⟨h81, hst⟩ := him.resolve_left h0
    obtain ⟨n, hn, h82, hcs, hwa⟩ := StR_cs hst
    have wm := hst.2.1
    obtain ⟨o1, ho1, h12⟩ : ∃ o1 : Nat, o1 < 40 ∧ I 50 2 = e_n (o1 : Nat) := by
      obtain ⟨-, -, ⟨o, n, a1, -, a2, -⟩, -⟩ := rel_st H
      exact ⟨o, a1, a2⟩
    obtain ⟨I1, e1, e2, e3, e4, e5⟩ := c95h (d := d + 6) (z := z) T2_50 T2_260 (by decide) wb wm hwa hn hcs ho1 h12
    refine ⟨.inl (e_n 1), I1, z, zs_rf z, e_E_ret (d := d + 9) ?_, (fun e h => by cases h), fun z2 hz => ?_⟩
    · show e_L (d + 9) 134 0 [.ref 1] [] (mk I z) = _
      rw [C134_0, h9, if_neg h0, e1, e_rV_n, C134_20]
    · have j2 : ∀ r, (r < 50 ∨ 260 ≤ r) → I1 r = I r := fun r h => e5 r (by omega)
      generalize hG : e_u (e_u (e_u I1 489 0 (e_n 0)) 489 56 (I1 489 82)) 489 76 (I1 489 83) = G
      have g1 : ∀ r, r ≠ 489 → G r = I1 r := fun r hr => by rw [← hG, e_u_na hr, e_u_na hr, e_u_na hr]
      have g2 : ∀ j, j ≠ 0 → j ≠ 56 → j ≠ 76 → G 489 j = I1 489 j := fun j a b c => by rw [← hG, e_u_ne c, e_u_ne b, e_u_ne a]
      generalize hG1 : upR G 515 (fun j => if j < ln 535 then G 535 j else G 515 j) = G1
      obtain ⟨p1, p2⟩ := cp3 hG1.symm (by decide)
      generalize hG2 : upR G1 516 (fun j => if j < ln 536 then G1 536 j else G1 516 j) = G2
      obtain ⟨q1, q2⟩ := cp3 hG2.symm (by decide)
      generalize hG3 : upR G2 532 (fun j => if j < ln 537 then G2 537 j else G2 532 j) = G3
      obtain ⟨r1, r2⟩ := cp3 hG3.symm (by decide)
      have hall : ∀ r, r ≠ 515 → r ≠ 516 → r ≠ 532 → G3 r = G r := fun r a b c => by rw [r2 r c, q2 r b, p2 r a]
      have h515 : ∀ j, j < 34 → G3 515 j = I 535 j := fun j hj => by rw [r2 515 (by decide), q2 515 (by decide), p1 j hj, g1 535 (by decide), j2 535 (by decide)]
      have h516 : ∀ j, j < 1360 → G3 516 j = I 536 j := fun j hj => by rw [r2 516 (by decide), q1 j hj, p2 536 (by decide), g1 536 (by decide), j2 536 (by decide)]
      have h532 : ∀ j, j < 24 → G3 532 j = I 537 j := fun j hj => by rw [r1 j hj, q2 537 (by decide), p2 537 (by decide), g1 537 (by decide), j2 537 (by decide)]
      have f489 : ∀ j, j ≠ 0 → j ≠ 56 → j ≠ 76 → G3 489 j = I 489 j := fun j a b c => by rw [hall 489 (by decide) (by decide) (by decide), g2 j a b c, j2 489 (by decide)]
      have k56 : G3 489 56 = e_n (n : Nat) := by rw [hall 489 (by decide) (by decide) (by decide), ← hG, e_u_ne (by decide), e_u_same, j2 489 (by decide), h82]
      have k76 : G3 489 76 = I 489 83 := by rw [hall 489 (by decide) (by decide) (by decide), ← hG, e_u_same, j2 489 (by decide)]
      have lo : ∀ r, r < 489 → G3 r = I1 r := fun r hr => by rw [hall r (by omega) (by omega) (by omega), g1 r (by omega)]
      refine ⟨G3, B, e_n 1, e_E_ret (d := d + 9) ?_, ?_, ?_, rfl⟩
      · show e_L (d + 9) 295 0 [.ref 489] [] (mk I1 z2) = _
        rw [C295_0, show I1 489 81 = I 489 81 from by rw [j2 489 (by decide)], if_neg h0, hG, c180h (r := 535) (r2 := 515) rfl rfl (by decide) (by decide), e_rV_n, C295_42, hG1, c180h (r := 536) (r2 := 516) rfl rfl (by decide) (by decide), e_rV_n, C295_54, hG2, c180h (r := 537) (r2 := 532) rfl rfl (by decide) (by decide), e_rV_n, C295_66, hG3]
      · refine Rel_im H (by rw [hz]) ?_ ?_ ?_ ?_ ?_ ?_ (Or.inr ⟨by rw [f489 81 (by decide) (by decide) (by decide)]; exact h81, ?_⟩)
        · intro r a b c
          by_cases h489 : r < 489
          · rw [lo r h489, j2 r (by omega)]
          · rw [hall r (by omega) (by omega) (by omega), g1 r a, j2 r (by omega)]
        · intro j hj
          rw [lo 1 (by decide), j2 1 (by decide)]
        · intro j a b c e f g
          exact f489 j a b c
        · rw [k56, k76]
          refine StR_mk wb ?_ hn wm hwa h515 rfl (fun k hk j hj => h516 _ (by omega)) ?_
          · obtain ⟨a1, o2, ho2, a2, a3, a4⟩ := e2
            refine ⟨MoC_fr (fun k hk => lo _ (by omega)) a1, o2, ho2, by rw [lo 50 (by decide)]; exact a2, by rw [lo 50 (by decide)]; exact a3, fun k hk => MoC_fr (fun j hj => lo _ ?_) (a4 k hk)⟩
            have := Nat.mod_lt (o2 + k) (show 0 < 40 by decide)
            omega
          · exact SeR_cp (t2 := 260) (rs2 := 537) (by rw [lo 50 (by decide)]; exact e3.1) (fun j hj => by rw [lo 57 (by decide), lo 58 (by decide), lo 59 (by decide)]; exact e4 j hj) h532 hst.2.2.2
        · rw [lo 1 (by decide), j2 1 (by decide), f489 81 (by decide) (by decide) (by decide)]; exact h9
        · rw [lo 260 (by decide), j2 260 (by decide)]; exact H.2.2.2.2.2.2.2.2.2.1.2
        · rw [f489 82 (by decide) (by decide) (by decide), f489 83 (by decide) (by decide) (by decide)]
          have o535 : G3 535 = I 535 := by rw [hall 535 (by decide) (by decide) (by decide), g1 535 (by decide), j2 535 (by decide)]
          have o536 : G3 536 = I 536 := by rw [hall 536 (by decide) (by decide) (by decide), g1 536 (by decide), j2 536 (by decide)]
          have o537 : G3 537 = I 537 := by rw [hall 537 (by decide) (by decide) (by decide), g1 537 (by decide), j2 537 (by decide)]
          exact StR_fr (fun r a b => by rw [lo r (by omega), j2 r (by omega)]) o535 o536 o537 hst
      · rw [hall 489 (by decide) (by decide) (by decide), ← hG, e_u_ne (by decide), e_u_ne (by decide), e_u_same]
theorem X145 {d : Nat} {c1 : Int32} {I : Nat → Nat → Int32} {z : e_Z} {B : e_B} (H : Rel I z B) : FaceX (fun _ => False) d c1 I z 145 266 [] := by
  have wb := rel_wb H
  have wb1 : bMa B ≤ 3 := wb.1
  obtain ⟨t, ht, hd⟩ := rel_day H
  obtain ⟨I1, a1, a2, a3, a4⟩ := lkC (d := d + 2) (z := z) H ht hd
  generalize hS : foS B (I 515) (min 30 (60 - t)) = S at a2 a3
  have hma : I1 (bd (zF z z.2.1.1).2.1.1) 2 = e_n (bMa B : Nat) := by
    rw [a4 _ (by have := bd_cases z; show ¬ ScrC z (bd z.2.1.1); unfold ScrC; omega)]; exact (rel_bc H).1
  refine face_rdX H (r := .inl (itr (bestS (S 3)) (bMa B) 0 (e_n (-1), e_n 0)).1) (I1 := I1) (zs_F z) rfl (e_E_ret (d := d + 9) ?_) a4 ?_
  · show e_L (d + 9) 145 0 [.ref 1, .null, .null, .null] [] (mk I z) = _
    rw [C145_0, a1, e_rV_n, C145_4]
    refine (loopI (fun (i : Int32) (q : Int32 × Int32) => e_L (d + 9) 145 10 [.ref 1, .int q.1, .int q.2, .int i] [] (mk I1 (zF z z.2.1.1))) (bMa B) (by omega) (bestS (S 3)) (fun i q hi => ?_) (e_n (-1), e_n 0)).trans ?_
    · have h3 : i < 3 := by omega
      refine C145_10.trans ?_
      rw [if_pos (by rw [hma, e_n_ltN (by omega) (by omega)]; exact hi), rd_N (r := 478) (k := i) h3, a2.2.2.2.2.2.2.1 i hi]
      rfl
    · refine C145_10.trans ?_
      rw [if_neg (by rw [hma, e_n_ltN (by omega) (by omega)]; omega)]
  · intro J z2 HJ hq
    obtain ⟨I2, b1, b2, b3, b4, b5, b6, b7, b8, b9⟩ := lkR (d := d + 2) (z := z2) (v := e_n 0) HJ (hq 515 (by decide)) ht hd
    rw [hS] at b2
    refine ⟨I2, (itr (bestS (S 3)) (bMa B) 0 (e_n (-1), e_n 0)).1, e_E_ret (d := d + 9) ?_, b4, b5, rfl⟩
    show e_L (d + 9) 266 0 [.ref 489, .null, .null, .null] [] (mk J z2) = _
    have hma2 : I2 489 1 = e_n (bMa B : Nat) := b7.1
    rw [C266_0, b1, e_rV_n, C266_9]
    refine (loopI (fun (i : Int32) (q : Int32 × Int32) => e_L (d + 9) 266 15 [.ref 489, .int q.1, .int q.2, .int i] [] (mk I2 z2)) (bMa B) (by omega) (bestS (S 3)) (fun i q hi => ?_) (e_n (-1), e_n 0)).trans ?_
    · have h3 : i < 3 := by omega
      refine (C266_15 (fun _ => InR_n (by omega) (by omega) (by omega))).trans ?_
      rw [if_pos (by rw [hma2, e_n_ltN (by omega) (by omega)]; exact hi), e_n_nat' (by omega), b2.2.2.2.2.2.1 i h3]
      rfl
    · refine (C266_15 (fun h => absurd h (by rw [hma2, e_n_ltN (by omega) (by omega)]; omega))).trans ?_
      rw [if_neg (by rw [hma2, e_n_ltN (by omega) (by omega)]; omega)]
theorem X147 {d : Nat} {c1 : Int32} {I : Nat → Nat → Int32} {z : e_Z} {B : e_B} (H : Rel I z B) : FaceX (fun _ => False) d c1 I z 147 265 [] := by
  have wb := rel_wb H
  have wb4 : bPe B ≤ 9 := wb.2.2.2.1
  obtain ⟨t, ht, hd⟩ := rel_day H
  obtain ⟨I1, a1, a2, a3, a4⟩ := lkC (d := d + 2) (z := z) H ht hd
  have hid := (idle_f (M := I 515) wb4 ht hd (min 30 (60 - t)) (by omega)).2
  generalize hS : foS B (I 515) (min 30 (60 - t)) = S at a2 a3 hid
  generalize hn : min 30 (60 - t) = n at a2 hid
  have hn30 : n ≤ 30 := by omega
  refine face_rdX H (r := .inl (S 4 2)) (I1 := I1) (zs_F z) rfl (e_E_ret (d := d + 9) ?_) a4 ?_
  · show e_L (d + 9) 147 0 [.ref 1] [] (mk I z) = _
    rw [C147_0, a1, e_rV_n, C147_4, a2.2.2.1]
  · intro J z2 HJ hq
    obtain ⟨I2, b1, b2, b3, b4, b5, b6, b7, b8, b9⟩ := lkR (d := d + 2) (z := z2) (v := e_n 0) HJ (hq 515 (by decide)) ht hd
    rw [hS, hn] at b2
    have hv : v236 I2 = e_n (n : Nat) := by rw [v236_n ht (by rw [b6]; exact hd), hn]
    refine ⟨I2, S 4 2, e_E_ret (d := d + 9) ?_, b4, b5, rfl⟩
    show e_L (d + 9) 265 0 [.ref 489, .null] [] (mk J z2) = _
    rw [C265_0, b1, e_rV_n, C265_9]
    have loop : ∀ k i, i + k = n → (∀ j, j < i → ¬ S 5 j = 0) → e_L (d + 9) 265 11 [.ref 489, .int (e_n (i : Nat))] [] (mk I2 z2) = some (.inl (some (.int (S 4 2))), mk I2 z2) := by
      intro k
      induction k with
      | zero =>
        intro i hi hj
        have : i = n := by omega
        subst this
        rw [C265_11 (fun h => absurd h (by rw [hv, e_n_ltN (by omega) (by omega)]; omega)), if_neg (by rw [hv, e_n_ltN (by omega) (by omega)]; omega)]
        rcases hid with ⟨h, -⟩ | ⟨k, hk, h2, -⟩
        · rw [h]
        · exact absurd h2 (hj k hk)
      | succ k ih =>
        intro i hi hj
        have h30 : i < 30 := by omega
        rw [C265_11 (fun _ => InR_n (by omega) (by omega) (by omega)), if_pos (by rw [hv, e_n_ltN (by omega) (by omega)]; omega), e_n_nat' (by omega), (b2.2.2.2.2.2.2 i (by omega)).1]
        by_cases h0 : S 5 i = 0
        · rw [if_pos h0]
          rcases hid with ⟨-, h⟩ | ⟨k', hk, h2, h3, h4⟩
          · exact absurd h0 (h i (by omega))
          · have : i = k' := by
              rcases Nat.lt_trichotomy i k' with h | h | h
              · exact absurd h0 (h3 i h)
              · exact h
              · exact absurd h2 (hj k' h)
            rw [this, h4, b6, hd, e_n_add]
            congr 4
        · rw [if_neg h0, e_n_succ]
          exact ih (i + 1) (by omega) (fun j hj2 => by
            by_cases hji : j = i
            · rw [hji]; exact h0
            · exact hj j (by omega))
    exact loop n 0 (by omega) (fun j hj => by omega)
theorem X143 {d : Nat} {c1 : Int32} {I : Nat → Nat → Int32} {z : e_Z} {B : e_B} (H : Rel I z B) : FaceX (fun _ => False) d c1 I z 143 276 [] := by
  have wb := rel_wb H
  obtain ⟨t, ht, hd⟩ := rel_day H
  generalize hn : min 30 (60 - t) = n
  have hn30 : n ≤ 30 := by omega
  obtain ⟨I1, a1, a2, a3⟩ := c144h (d := d + 2) (c := 0) H ht hd (by omega)
  have hsc := bd_cases z
  have H1 : Rel I1 (zF z z.2.1.1) B := Rel_c rfl a2 H
  have h515 : I1 515 = I 515 := a2 515 (by unfold ScrC; omega)
  obtain ⟨I2, b1, b2, b3, b4⟩ := lkC (d := d + 2) H1 ht (by rw [h515]; exact hd)
  rw [hn] at a1
  rw [h515, hn] at b2
  have hcl : clS B (I 515) n 30 = foS B (I 515) n := by unfold clS; rw [if_neg (by omega)]
  refine face_rdX H (r := .inl (foS B (I 515) n 0 1 &&& (clS B (I 515) n 0 0 1 ^^^ e_n (-1)))) (I1 := I2) (z1 := zF (zF z z.2.1.1) z.2.1.1) ⟨rfl, rfl⟩ rfl (e_E_ret (d := d + 9) ?_) (CfE_tr (z' := zF z z.2.1.1) rfl a2 b4) ?_
  · show e_L (d + 9) 143 0 [.ref 1, .null] [] (mk I z) = _
    rw [C143_0, show (e_n 0) = e_n ((0 : Nat) : Nat) from rfl, a1, e_rI_i, C143_5, b1, e_rV_n, C143_10, b2.1.2.2.1]
    rfl
  · intro J z2 HJ hq
    have hK : e_u J 489 0 (e_n 0) 515 = I 515 := by rw [K515 (by decide), hq 515 (by decide)]
    obtain ⟨J1, g1, g2, g3, g4⟩ := c274h (d := d + 2) (c := 30) (M := I 515) (Rel_K (v := e_n 0) HJ) hK ht hd (by omega)
    obtain ⟨J2, x1, x2, x3, x4⟩ := c274h (d := d + 2) (c := 0) (M := I 515) (Rel_r rfl g2.1 g2.2 (Rel_K (v := e_n 0) HJ)) g4 ht hd (by omega)
    rw [hn] at g1 x1
    rw [hcl] at g1
    refine ⟨J2, foS B (I 515) n 0 1 &&& (clS B (I 515) n 0 0 1 ^^^ e_n (-1)), e_E_ret (d := d + 9) ?_, RfE_tr RfE_0 (RfE_tr g2 x2), by rw [x3, g3, e_u_same], rfl⟩
    show e_L (d + 9) 276 0 [.ref 489, .null] [] (mk J z2) = _
    rw [C276_0, show (e_n 30) = e_n ((30 : Nat) : Nat) from rfl, g1, e_rI_i, C276_11, show (e_n 0) = e_n ((0 : Nat) : Nat) from rfl, x1, e_rI_i, C276_18]
-- were WRITES for that one never more than 0
theorem X116 {d : Nat} {c1 : Int32} {I : Nat → Nat → Int32} {z : e_Z} {B : e_B} (H : Rel I z B) {a b c e f : Int32} : FaceX (fun _ => False) d c1 I z 116 182 [.int a, .int b, .int c, .int e, .int f] := by
  have hbc := bd_cases z
  obtain ⟨n, hn, h1, h19, hsame⟩ := H.2.2.2.2.2.1
  by_cases hbig : 700 < n + 20
  · refine face_rdX H (r := .inl (e_n (-1))) (I1 := I) (zs_rf z) rfl (e_E_ret (d := d + 9) ?_) (fun _ _ => rfl) ?_
    · show e_L (d + 9) 116 0 [.ref 1, .int a, .int b, .int c, .int e, .int f] [] (mk I z) = _
      rw [C116_0, h1, e_n_add, show ((n : Int) + 20) = ((n + 20 : Nat) : Int) by omega, if_pos (by rw [show (e_n 700) = e_n ((700 : Nat) : Nat) from rfl, e_n_ltN (by omega) (by omega)]; omega)]
    · intro J z2 HJ hq
      obtain ⟨n', hn', h1', h19', -⟩ := HJ.2.2.2.2.2.1
      have hJ19 : J 489 19 = e_n (n : Nat) := by rw [hq 489 (by decide)]; exact h19
      refine ⟨e_u J 489 0 (e_n 0), e_n (-1), e_E_ret (d := d + 9) ?_, RfE_0, K0, rfl⟩
      show e_L (d + 9) 182 0 [.ref 489, .int a, .int b, .int c, .int e, .int f] [] (mk J z2) = _
      rw [C182_0, hJ19, e_n_add, show ((n : Int) + 20) = ((n + 20 : Nat) : Int) by omega, if_pos (by rw [show (e_n 700) = e_n ((700 : Nat) : Nat) from rfl, e_n_ltN (by omega) (by omega)]; omega)]
  · obtain ⟨I1, a1, b1, r1, f1, g1⟩ := c117h (d := d + 7) (z := z) (x := a) (n := n) (by omega) h1
    obtain ⟨I2, a2, b2, r2, f2, g2⟩ := c117h (d := d + 7) (z := z) (x := b) (n := n + 4) (by omega) b1
    obtain ⟨I3, a3, b3, r3, f3, g3⟩ := c117h (d := d + 7) (z := z) (x := c) (n := n + 4 + 4) (by omega) b2
    obtain ⟨I4, a4, b4, r4, f4, g4⟩ := c117h (d := d + 7) (z := z) (x := e) (n := n + 4 + 4 + 4) (by omega) b3
    obtain ⟨I5, a5, b5, r5, f5, g5⟩ := c117h (d := d + 7) (z := z) (x := f) (n := n + 4 + 4 + 4 + 4) (by omega) b4
    have hno : ¬ e_n 700 < e_n (n : Nat) + e_n 20 := by
      rw [e_n_add, show ((n : Int) + 20) = ((n + 20 : Nat) : Int) by omega, show (e_n 700) = e_n ((700 : Nat) : Nat) from rfl, e_n_ltN (by omega) (by omega)]; omega
    have fr : ∀ r, r ≠ 1 → r ≠ 2 → I5 r = I r := fun r q1 q2 => by rw [f5 r q1 q2, f4 r q1 q2, f3 r q1 q2, f2 r q1 q2, f1 r q1 q2]
    have fj : ∀ j, j ≠ 1 → I5 1 j = I 1 j := fun j q => by rw [g5 j q, g4 j q, g3 j q, g2 j q, g1 j q]
    refine ⟨.inl (e_n ((n + 20 : Nat) : Nat)), I5, z, zs_rf z, e_E_ret (d := d + 9) ?_, (fun e h => by cases h), fun z2 hz2 => ?_⟩
    · show e_L (d + 9) 116 0 [.ref 1, .int a, .int b, .int c, .int e, .int f] [] (mk I z) = _
      rw [C116_0, h1, if_neg hno, a1, e_rV_n, C116_20, a2, e_rV_n, C116_25, a3, e_rV_n, C116_30, a4, e_rV_n, C116_36, a5, e_rV_n, C116_42, b5]
    · have k0 : e_u I5 489 0 (e_n 0) 489 19 = e_n (n : Nat) := by rw [e_u_ne (by decide), fr 489 (by decide) (by decide)]; exact h19
      obtain ⟨J1, c1', d1, s1, p1, q1⟩ := c183h (d := d + 8) (z := z2) (x := a) (n := n) (by omega) k0
      obtain ⟨J2, c2', d2, s2, p2, q2⟩ := c183h (d := d + 8) (z := z2) (x := b) (n := n + 4) (by omega) d1
      obtain ⟨J3, c3', d3, s3, p3, q3⟩ := c183h (d := d + 8) (z := z2) (x := c) (n := n + 4 + 4) (by omega) d2
      obtain ⟨J4, c4', d4, s4, p4, q4⟩ := c183h (d := d + 8) (z := z2) (x := e) (n := n + 4 + 4 + 4) (by omega) d3
      obtain ⟨J5, c5', d5, s5, p5, q5⟩ := c183h (d := d + 8) (z := z2) (x := f) (n := n + 4 + 4 + 4 + 4) (by omega) d4
      have frJ : ∀ r, r ≠ 489 → r ≠ 500 → J5 r = I5 r := fun r u1 u2 => by rw [p5 r u1 u2, p4 r u1 u2, p3 r u1 u2, p2 r u1 u2, p1 r u1 u2, e_u_na u1]
      have fjJ : ∀ j, j ≠ 19 → j ≠ 0 → J5 489 j = I 489 j := fun j u1 u2 => by rw [q5 j u1, q4 j u1, q3 j u1, q2 j u1, q1 j u1, e_u_ne u2, fr 489 (by decide) (by decide)]
      have h00 : J5 489 0 = e_n 0 := by rw [q5 0 (by decide), q4 0 (by decide), q3 0 (by decide), q2 0 (by decide), q1 0 (by decide), e_u_same]
      have e500 : e_u I5 489 0 (e_n 0) 500 = I 500 := by rw [e_u_na (by decide), fr 500 (by decide) (by decide)]
      have eqv : ∀ k, k < n + 4 + 4 + 4 + 4 + 4 → J5 2 k = J5 500 k := by
        have w1 : ∀ k, k < n + 4 → I1 2 k = J1 500 k := fun k hk => by rw [r1, s1, e500]; exact fdR_cg hsame k hk
        have w2 : ∀ k, k < n + 4 + 4 → I2 2 k = J2 500 k := fun k hk => by rw [r2, s2]; exact fdR_cg w1 k hk
        have w3 : ∀ k, k < n + 4 + 4 + 4 → I3 2 k = J3 500 k := fun k hk => by rw [r3, s3]; exact fdR_cg w2 k hk
        have w4 : ∀ k, k < n + 4 + 4 + 4 + 4 → I4 2 k = J4 500 k := fun k hk => by rw [r4, s4]; exact fdR_cg w3 k hk
        intro k hk
        rw [frJ 2 (by decide) (by decide), r5, s5]; exact fdR_cg w4 k hk
      have fr2 : ∀ r, r ≠ 1 → r ≠ 2 → r ≠ 489 → r ≠ 500 → J5 r = I r := fun r u1 u2 u3 u4 => by rw [frJ r u3 u4, fr r u1 u2]
      refine ⟨J5, B, e_n ((n + 20 : Nat) : Nat), e_E_ret (d := d + 9) ?_, ?_, h00, rfl⟩
      · show e_L (d + 9) 182 0 [.ref 489, .int a, .int b, .int c, .int e, .int f] [] (mk I5 z2) = _
        have h19' : I5 489 19 = e_n (n : Nat) := by rw [fr 489 (by decide) (by decide)]; exact h19
        rw [C182_0, h19', if_neg hno, c1', e_rV_n, C182_25, c2', e_rV_n, C182_30, c3', e_rV_n, C182_35, c4', e_rV_n, C182_41, c5', e_rV_n, C182_47, d5]
      · have hzz : z2.2.1.1 = z.2.1.1 := by rw [hz2]
        obtain ⟨a1, a2, a3, a4, a5, a6, a7, a8, a9, a10, a11⟩ := H
        have x1 : ∀ j, j ≠ 1 → J5 1 j = I 1 j := fun j hj => by rw [frJ 1 (by decide) (by decide)]; exact fj j hj
        have y : ∀ j, j ≠ 19 → j ≠ 0 → J5 489 j = I 489 j := fjJ
        refine ⟨a1, ?_, RB_fr (fun k _ _ => y k (by omega) (by omega)) (fun q q1 q2 => fr2 q (by omega) (by omega) (by omega) (by omega)) a3, by rw [y 61 (by decide) (by decide)]; exact a4, by rw [y 69 (by decide) (by decide)]; exact a5, ⟨n + 20, by omega, ?_, d5, eqv⟩, by rw [x1 2 (by decide), y 21 (by decide) (by decide)]; exact a7, by rw [fr2 3 (by decide) (by decide) (by decide) (by decide), fr2 501 (by decide) (by decide) (by decide) (by decide)]; exact a8, ?_, ?_, ?_⟩
        · rw [hzz]
          exact BrC_fr (fun k k1 k2 k3 k4 k5 => fr2 _ (by omega) (by omega) (by omega) (by omega)) a2
        · rw [frJ 1 (by decide) (by decide)]; exact b5
        · rw [y 56 (by decide) (by decide), y 76 (by decide) (by decide)]
          exact StR_fr (fun r r1 r2 => fr2 r (by omega) (by omega) (by omega) (by omega)) (fr2 515 (by decide) (by decide) (by decide) (by decide)) (fr2 516 (by decide) (by decide) (by decide) (by decide)) (fr2 532 (by decide) (by decide) (by decide) (by decide)) a9
        · rw [x1 9 (by decide), y 81 (by decide) (by decide), fr2 260 (by decide) (by decide) (by decide) (by decide)]; exact a10
        · rw [y 81 (by decide) (by decide), y 82 (by decide) (by decide), y 83 (by decide) (by decide)]
          rcases a11 with q | ⟨q, r⟩
          · exact Or.inl q
          · exact Or.inr ⟨q, StR_fr (fun r r1 r2 => fr2 r (by omega) (by omega) (by omega) (by omega)) (fr2 535 (by decide) (by decide) (by decide) (by decide)) (fr2 536 (by decide) (by decide) (by decide) (by decide)) (fr2 537 (by decide) (by decide) (by decide) (by decide)) r⟩
end S99u
