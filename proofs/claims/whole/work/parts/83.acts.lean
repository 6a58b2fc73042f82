/-! acts, face to face: go, undo, see, mornings -/
section S83
def ldS (B : e_B) (w : Nat) (x : Int32) : Int32 := if bR B 2 w = x then bR B 3 w else if bR B 3 w = x then bR B 2 w else e_n (-1)
theorem ldS_n {B : e_B} {w : Nat} {x : Int32} (wb : WB B) (hw : w < bWy B) (h : ¬ ldS B w x = e_n (-1)) : ∃ a : Nat, a < bPl B ∧ ldS B w x = e_n (a : Nat) := by
  obtain ⟨a1, a2⟩ := wA_n wb hw
  obtain ⟨z1, z2⟩ := wZ_n wb hw
  unfold ldS at *
  by_cases h1 : bR B 2 w = x
  · rw [if_pos h1]; exact ⟨_, z1, z2⟩
  · rw [if_neg h1] at h ⊢
    by_cases h2 : bR B 3 w = x
    · rw [if_pos h2]; exact ⟨_, a1, a2⟩
    · rw [if_neg h2] at h; exact absurd (by decide) h
theorem F128 {d : Nat} {c1 : Int32} {I : Nat → Nat → Int32} {z : e_Z} {B : e_B} (H : Rel I z B) {x x2 : Int32} : Face d c1 I z 128 254 [.int x, .int x2] := by
  have wb := rel_wb H
  have wb2 : bPl B ≤ 8 := wb.2.1
  have wb3 : bWy B ≤ 12 := wb.2.2.1
  have wb4 : bPe B ≤ 9 := wb.2.2.2.1
  have hb := B2_bd z.2.1.1
  have hpc := (rel_bc H).2.2.2.1
  have hwc := (rel_bc H).2.2.1
  by_cases hm : x < 0 ∨ ¬ x < e_n (bPe B : Nat)
  · refine throw_p H ?_ ?_
    · refine (e_E_11 (d := d + 9) (y := 128) rfl).trans ?_
      show e_L (d + 9) 128 0 [.ref 1, .int x, .int x2, .null, .null] [] (mk I z) = _
      rw [C128_0, hpc, if_pos hm]; rfl
    · intro J z2 HJ
      refine ⟨e_n 0, e_E_ret (d := d + 9) ?_⟩
      show e_L (d + 9) 254 0 [.ref 489, .int x, .int x2, .null] [] (mk J z2) = _
      rw [C254_0, c245n (RB_0 (rel_rb HJ)) K0 hm, e_rI_i, C254_10, if_pos (by decide)]
  by_cases hw : x2 < 0 ∨ ¬ x2 < e_n (bWy B : Nat)
  · refine throw_p H ?_ ?_
    · refine (e_E_11 (d := d + 9) (y := 128) rfl).trans ?_
      show e_L (d + 9) 128 0 [.ref 1, .int x, .int x2, .null, .null] [] (mk I z) = _
      rw [C128_0, hpc, if_neg hm, hwc, if_pos hw]; rfl
    · intro J z2 HJ
      refine ⟨e_n 0, e_E_ret (d := d + 9) ?_⟩
      show e_L (d + 9) 254 0 [.ref 489, .int x, .int x2, .null] [] (mk J z2) = _
      have rb := RB_0 (v := e_n 0) (rel_rb HJ)
      rw [C254_0, c245y rb K0 hm, e_rI_i, C254_10, if_neg (by decide), rb.2.2.1, right_n K0 (fun q => hw.elim q.1 (fun v => v q.2)) (by decide), e_rI_i, C254_35 (fun h => absurd (by decide) h) (fun h => absurd (by decide) h) (fun h => absurd (by decide) h), if_pos (by decide)]
  obtain ⟨p, hp, rfl⟩ := in_n (by omega) hm
  obtain ⟨w, hww, rfl⟩ := in_n (by omega) hw
  have hdb := and_bit (I 515 1) (show p < 32 by omega)
  have i22 : (e_n 22 + e_n (p : Nat)).toNatClampNeg = 22 + p := ix (a := 22) (by omega)
  have g22 : InR (e_n 22 + e_n (p : Nat)) 34 := ixI (a := 22) (by omega) (by decide)
  have gw : InR (e_n (w : Nat)) 12 := InR_n (by omega) (by omega) (by omega)
  have h9 : p < 9 := by omega
  obtain ⟨a, ha, hat⟩ := (rel_wm H).2.1 p hp
  have hwh : rd I 54 (e_n (p : Nat)) = e_n (a : Nat) := by rw [rd_N (r := 54) (k := p) h9, ← hat]; exact ((rel_mc H).2.2.2.2.2.1 p hp).2.2
  have hwh' : rd I (51 + 3) (e_n (p : Nat)) = e_n (a : Nat) := hwh
  have hdg : rd I (bd z.2.1.1 + 2) (e_n (a : Nat)) = bR B 1 a := by rw [rd_N (by rw [lnb2 hb]; omega)]; exact (rel_bc H).2.2.2.2.2.2.1 a ha
  have hwy := (rel_bc H).2.2.2.2.2.2.2.1 w hww
  have hld : v31 I (bd z.2.1.1) (e_n (w : Nat)) (e_n (a : Nat)) = ldS B w (e_n (a : Nat)) := by
    unfold v31 ldS
    rw [rd_N (by rw [lnb3 hb]; omega), rd_N (by rw [lnb4 hb]; omega), hwy.1, hwy.2.1]
  have hgt : rd I (bd z.2.1.1 + 5) (e_n (w : Nat)) = bR B 4 w := by rw [rd_N (by rw [lnb5 hb]; omega)]; exact hwy.2.2
  have hde : I 51 2 = I 515 1 := (rel_mc H).2.2.1
  have hday : I 51 0 = I 515 0 := (rel_mc H).1
  have hwn1 : ¬ e_n (w : Nat) = e_n (-1) := e_n_neg1 (by omega)
  have cls : e_L (d + 9) 128 0 [.ref 1, .int (e_n (p : Nat)), .int (e_n (w : Nat)), .null, .null] [] (mk I z) = (if bt (I 515 1) p = true ∨ bR B 1 a = e_n (-1) then some (.inl (some (.int (e_n (-1)))), mk (e_u I 3 1 (I 3 1 + e_n 1)) z) else (if ldS B w (e_n (a : Nat)) = e_n (-1) then some (.inl (some (.int (e_n (-1)))), mk (e_u I 3 1 (I 3 1 + e_n 1)) z) else (if I 515 0 < bR B 4 w then (e_rV (e_E (d + 9) 97 [.ref 50] (mk I z)) (fun σ => e_L (d + 9) 128 90 [.ref 1, .int (e_n (p : Nat)), .int (e_n (w : Nat)), .ref 51, .int (ldS B w (e_n (a : Nat)))] [] σ) (e_H (e_L (d + 9) 128) 128 87 [.ref 1, .int (e_n (p : Nat)), .int (e_n (w : Nat)), .ref 51, .int (ldS B w (e_n (a : Nat)))])) else some (.inl (some (.int (e_n (-1)))), mk (e_u I 3 1 (I 3 1 + e_n 1)) z)))) := by
    rw [C128_0, hpc, if_neg hm, hwc, if_neg hw, hde, hwh, hdg, hld, hgt, hday, w3_1]
    simp only [hdb, hwn1, false_or, Bool.not_eq_false]
  have rfs : ∀ (J : Nat → Nat → Int32) (z2 : e_Z), (∀ s, 489 ≤ s → J s = I s) → RB (e_u J 489 0 (e_n 0)) B → e_L (d + 9) 254 0 [.ref 489, .int (e_n (p : Nat)), .int (e_n (w : Nat)), .null] [] (mk J z2) = (if bt (I 515 1) p = true ∨ bR B 1 a = e_n (-1) ∨ ldS B w (e_n (a : Nat)) = e_n (-1) ∨ ¬ I 515 0 < bR B 4 w then some (.inl (some (.int (e_n (-1)))), mk (e_u (e_u J 489 0 (e_n 0)) 501 1 (J 501 1 + e_n 1)) z2) else (e_rV (e_E (d + 9) 218 [.ref 489] (mk (e_u J 489 0 (e_n 0)) z2)) (fun σ => e_L (d + 9) 254 107 [.ref 489, .int (e_n (p : Nat)), .int (e_n (w : Nat)), .int (ldS B w (e_n (a : Nat)))] [] σ) (e_H (e_L (d + 9) 254) 254 104 [.ref 489, .int (e_n (p : Nat)), .int (e_n (w : Nat)), .int (ldS B w (e_n (a : Nat)))]))) := by
    intro J z2 hq rb
    have hK : e_u J 489 0 (e_n 0) 515 = I 515 := by rw [K515 (by decide), hq 515 (by decide)]
    have hry := rb.2.2.2.2.2.2.2.2.1 w hww
    have hl2 : v252 (e_u J 489 0 (e_n 0)) (e_n (w : Nat)) (e_n (a : Nat)) = ldS B w (e_n (a : Nat)) := by
      unfold v252 ldS
      rw [e_n_nat' (by omega), hry.1, hry.2.1]
    have h69 : e_u J 489 0 (e_n 0) 489 69 = e_n (-1) := by rw [e_u_ne (by decide), hq 489 (by decide)]; exact H.2.2.2.2.1
    have hdg2 : e_u J 489 0 (e_n 0) 490 a = bR B 1 a := rb.2.2.2.2.2.2.2.1 a ha
    rw [C254_0, c245y rb K0 hm, e_rI_i, C254_10, if_neg (by decide), rb.2.2.1, right_y K0 ⟨fun q => hw (Or.inl q), Decidable.byContradiction (fun q => hw (Or.inr q))⟩, e_rI_i, C254_35 (fun _ => g22) (fun _ => gw) (fun _ _ => by rw [i22, hK, hat]; exact InR_n (by omega) (by omega) (by omega)), if_neg (by decide), i22, hK, hat, e_n_nat' (show a < 2147483648 by omega), hl2, hdg2, c219k, e_rI_i, C254_102]
    simp only [shr_bit _ (show p < 32 by omega)]
    by_cases h1 : bt (I 515 1) p = true
    · rw [if_pos h1, if_pos (Or.inl h1)]
    rw [if_neg h1]
    by_cases h2 : bR B 1 a = e_n (-1)
    · rw [if_pos h2, if_pos (Or.inr (Or.inl h2))]
    rw [if_neg h2]
    by_cases h3 : ldS B w (e_n (a : Nat)) = e_n (-1)
    · rw [if_pos h3, if_pos (Or.inr (Or.inr (Or.inl h3)))]
    rw [if_neg h3, c253 (fun _ => gw), e_rI_i, h69, e_n_nat' (show w < 2147483648 by omega), hry.2.2, C254_94]
    by_cases h4 : I 515 0 < bR B 4 w
    · rw [if_neg (show ¬ tf (e_n (w : Nat) = e_n (-1) ∨ I 515 0 < bR B 4 w) = 0 from by rw [tf_eq0]; exact fun h => h (Or.inr h4)), if_neg (by rintro (h | h | h | h); exact h1 h; exact h2 h; exact h3 h; exact h h4)]
    · rw [if_pos (show tf (e_n (w : Nat) = e_n (-1) ∨ I 515 0 < bR B 4 w) = 0 from by rw [tf_eq0]; rintro (h | h); exact hwn1 h; exact h4 h), c219k, e_rI_i, C254_102, if_pos (Or.inr (Or.inr (Or.inr h4)))]
  by_cases hno : bt (I 515 1) p = true ∨ bR B 1 a = e_n (-1) ∨ ldS B w (e_n (a : Nat)) = e_n (-1) ∨ ¬ I 515 0 < bR B 4 w
  · refine refuse_face H (k := 1) (v := e_n (-1)) (by decide) (e_E_ret (d := d + 9) (cls.trans ?_)) (fun J z2 hq rb => e_E_ret (d := d + 9) ((rfs J z2 hq rb).trans (if_pos hno)))
    by_cases h1 : bt (I 515 1) p = true ∨ bR B 1 a = e_n (-1)
    · rw [if_pos h1]
    rw [if_neg h1]
    by_cases h3 : ldS B w (e_n (a : Nat)) = e_n (-1)
    · rw [if_pos h3]
    rw [if_neg h3, if_neg]
    rcases hno with h | h | h | h
    · exact absurd (Or.inl h) h1
    · exact absurd (Or.inr h) h1
    · exact absurd h h3
    · exact h
  · have n1 : ¬ (bt (I 515 1) p = true ∨ bR B 1 a = e_n (-1)) := fun h => hno (h.elim (fun h => Or.inl h) (fun h => Or.inr (Or.inl h)))
    have n3 : ¬ ldS B w (e_n (a : Nat)) = e_n (-1) := fun h => hno (Or.inr (Or.inr (Or.inl h)))
    have n4 : I 515 0 < bR B 4 w := Decidable.byContradiction (fun h => hno (Or.inr (Or.inr (Or.inr h))))
    refine act_face H (M' := fun j => if j = 22 + p then ldS B w (e_n (a : Nat)) else I 515 j) (v := ldS B w (e_n (a : Nat))) (wm_go wb hp (ldS_n wb hww n3) (rel_wm H)) ?_ ?_
    · intro I1 e1 hM1 hA
      refine ⟨e_u I1 54 p (ldS B w (e_n (a : Nat))), e_E_ret (d := d + 9) (cls.trans ?_), MoC_go wb hp hM1, ?_⟩
      · rw [if_neg n1, if_neg n3, if_pos n4, e1, e_rV_n, C128_90, wr_N (r := 54) (k := p) h9]
      · intro r hr
        rw [e_u_na (by omega)]
    · intro J K z2 hq rb k1 k4 k5
      refine ⟨e_u K 515 (22 + p) (ldS B w (e_n (a : Nat))), e_E_ret (d := d + 9) ((rfs J z2 hq rb).trans ?_), ?_, ?_⟩
      · rw [if_neg hno, k1, e_rV_n, C254_107 g22, i22]
      · intro j hj
        rw [e_u_at, k4 515 (by decide) (by decide), hq 515 (by decide)]
      · intro r hr
        rw [e_u_na hr]
/-- undone -/
theorem F132 {d : Nat} {c1 : Int32} {I : Nat → Nat → Int32} {z : e_Z} {B : e_B} (H : Rel I z B) : Face d c1 I z 132 220 [] := by
  have wb := rel_wb H
  obtain ⟨n, hn, h56, hcs, hwa⟩ := rel_cs H
  have h3 : I 50 3 = e_n (n : Nat) := by obtain ⟨-, o, -, -, h, -⟩ := hcs; exact h
  cases n with
  | zero =>
    refine face_rd H (r := .inl (e_n (-1))) (I1 := I) (zs_rf z) rfl (e_E_ret (d := d + 9) ?_) (fun _ _ => rfl) ?_
    · show e_L (d + 9) 132 0 [.ref 1] [] (mk I z) = _
      rw [C132_0, h3, if_pos (by decide)]
    · intro J z2 HJ hq
      refine ⟨_, e_n (-1), e_E_ret (d := d + 9) ?_, RfE_0 (v := e_n 0), e_u_same, rfl⟩
      show e_L (d + 9) 220 0 [.ref 489, .null] [] (mk J z2) = _
      rw [C220_0, hq 489 (by decide), h56, if_pos (by decide)]
  | succ n =>
    obtain ⟨I1, e1, e2, e3, e4⟩ := c98h (d := d + 6) (z := z) T2_50 wb hcs (hwa n (by omega)) (by omega)
    refine ⟨.inl (e_n (n : Nat)), I1, z, zs_rf z, e_E_ret (d := d + 9) ?_, fun z2 hz => ?_⟩
    · show e_L (d + 9) 132 0 [.ref 1] [] (mk I z) = _
      have h31 : I1 50 3 = e_n (n : Nat) := by obtain ⟨-, o, -, -, h, -⟩ := e2; exact h
      rw [C132_0, h3, if_neg (by rw [show (0 : Int32) = e_n ((0 : Nat) : Nat) from rfl, e_n_inj (by omega) (by omega) (by omega) (by omega)]; omega), e1, e_rV_n, C132_19, h31]
    · have q : ∀ s, 489 ≤ s → I1 s = I s := fun s hs => e3 s (by omega)
      generalize hG : e_u (e_u I1 489 0 (e_n 0)) 489 56 (e_n (n : Nat)) = G
      have G56 : G 489 56 = e_n (n : Nat) := by rw [← hG, e_u_same]
      have G516 : G 516 = I 516 := by rw [← hG, e_u_na (by decide), e_u_na (by decide), q 516 (by decide)]
      have loop : ∀ (k x : Nat) (K : Nat → Nat → Int32), x + k = 34 → K = upR G 515 (fun j => if j < x then I 516 (34 * n + j) else G 515 j) → e_L (d + 9) 220 26 [.ref 489, .int (e_n (x : Nat))] [] (mk K z2) = some (.inl (some (.int (e_n (n : Nat)))), mk (upR G 515 (fun j => if j < 34 then I 516 (34 * n + j) else G 515 j)) z2) := by
        intro k
        induction k with
        | zero =>
          intro x K hx hK
          have : x = 34 := by omega
          subst this
          rw [C220_26 (fun h => absurd h (by decide)) (fun h => absurd h (by decide)), if_neg (by decide), hK, upR_ne (by decide), G56]
        | succ k ih =>
          intro x K hx hK
          have hK56 : K 489 56 = e_n (n : Nat) := by rw [hK, upR_ne (by decide)]; exact G56
          have hix : e_n 34 * e_n (n : Nat) + e_n (x : Nat) = e_n ((34 * n + x : Nat) : Nat) := by rw [e_n_mul, e_n_add]; congr 1
          rw [C220_26 (fun _ => by rw [hK56, hix]; exact InR_n (by omega) (by omega) (by omega)) (fun _ => InR_n (by omega) (by omega) (by omega)), if_pos (by rw [show (e_n 34) = e_n ((34 : Nat) : Nat) from rfl, e_n_ltN (by omega) (by omega)]; omega), hK56, hix, e_n_nat' (by omega), e_n_nat' (by omega), e_n_succ]
          refine ih (x + 1) _ (by omega) ?_
          rw [hK, upR_ne (show (516 : Nat) ≠ 515 by decide), G516, e_u_up, upR_up, upR_same]
          congr 1
          funext j
          by_cases h : j = x
          · rw [if_pos h, if_pos (by omega), h]
          · rw [if_neg h]
            have : (j < x + 1) = (j < x) := by apply propext; omega
            simp only [this]
      refine ⟨upR G 515 (fun j => if j < 34 then I 516 (34 * n + j) else G 515 j), B, e_n (n : Nat), e_E_ret (d := d + 9) ?_, ?_, ?_, rfl⟩
      · show e_L (d + 9) 220 0 [.ref 489, .null] [] (mk I1 z2) = _
        have hn1 : e_n ((n + 1 : Nat) : Nat) - e_n 1 = e_n (n : Nat) := by rw [e_n_sub]; congr 1; omega
        rw [C220_0, q 489 (by decide), h56, if_neg (by rw [show (0 : Int32) = e_n ((0 : Nat) : Nat) from rfl, e_n_inj (by omega) (by omega) (by omega) (by omega)]; omega), hn1]
        rw [hG]
        exact loop 34 0 G (by decide) (by rw [upR_id (by intro j; rw [if_neg (by omega)])])
      · refine act_end (I1 := I1) (M := fun j => I 516 (34 * n + j)) (n := n) (A := fun k j => I 516 (34 * k + j)) H (by rw [hz]) e2 ?_ (e4 4 (by decide)) (by omega) (hwa n (by omega)) (fun k hk => hwa k (by omega)) ?_ ?_ ?_ ?_ ?_
        · intro r h1 h2 h3 _
          exact e3 r (by omega)
        · intro j hj
          rw [upR_same, if_pos hj]
        · rw [upR_ne (by decide)]; exact G56
        · intro k hk j hj
          rw [upR_ne (by decide), G516]
        · intro r h1 h2 h3 _
          rw [upR_ne h2, ← hG, e_u_na h1, e_u_na h1]
        · intro j h1 h2
          rw [upR_ne (by decide), ← hG, e_u_ne h1, e_u_ne (fun e => h2 (by rw [e]; exact Or.inl rfl))]
      · rw [upR_ne (by decide), ← hG, e_u_ne (by decide), e_u_same]
end S83
