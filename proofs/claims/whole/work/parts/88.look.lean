/-! what comes: when, found, next, owes, richest, idle, worst: face to face -/
section S88
def foS (B : e_B) (M : Nat → Int32) (n : Nat) : e_T := itr (moS B (e_n (-1))) n 0 (begS M)
/-- the class looks ahead -/
theorem lkC {d t : Nat} {I : Nat → Nat → Int32} {z : e_Z} {B : e_B} (H : Rel I z B) (ht : t ≤ 60) (hd : I 515 0 = e_n (t : Nat)) : ∃ I1, e_E (d + 7) 135 [.ref 1] (mk I z) = some (.inl none, mk I1 (zF z z.2.1.1)) ∧ FC I1 B (foS B (I 515) (min 30 (60 - t))) (min 30 (60 - t)) ∧ WS B (foS B (I 515) (min 30 (60 - t))) ∧ CfE z I I1 := by
  obtain ⟨I1, a1, a2, a3, a4⟩ := c135h (d := d) (z := z) (rel_wb H) (rel_wm H) (rel_bc H) (rel_mc H) ht hd
  exact ⟨I1, a1, a2, a3, fun r hr => a4 r (fun h => hr (by unfold ScrC; omega)) (fun h => hr (by unfold ScrC; omega)) (by unfold ScrC at hr; omega)⟩
/-- the reference plays all -/
theorem lkR {d t : Nat} {J : Nat → Nat → Int32} {z : e_Z} {B : e_B} {M : Nat → Int32} {v : Int32} (H : Rel J z B) (hM : J 515 = M) (ht : t ≤ 60) (hd : M 0 = e_n (t : Nat)) : ∃ I2, e_E (d + 7) 238 [.ref 489] (mk (e_u J 489 0 v) z) = some (.inl none, mk I2 z) ∧ RF I2 525 (foS B M (min 30 (60 - t))) (min 30 (60 - t)) ∧ WS B (foS B M (min 30 (60 - t))) ∧ RfE J I2 ∧ I2 489 0 = v ∧ I2 515 = M ∧ RB I2 B ∧ I2 489 61 = e_n (-1) ∧ I2 489 69 = e_n (-1) := by
  obtain ⟨I2, a1, a2, a3, a4, a5, a6⟩ := c238h (d := d) (z := z) (I := e_u J 489 0 v) (M := M) (sk := e_n (-1)) (rel_wb H) (by rw [← hM]; exact rel_wm H) (RB_0 (rel_rb H)) (fun j _ => by rw [K515 (by decide), hM]) ht hd (by rw [e_u_ne (by decide)]; exact H.2.2.2.1)
  have h515 : I2 515 = M := by rw [a5 515 (by decide) (by decide) (by decide) (by decide) (by decide) (by decide) (by decide) (by decide) (by decide) (by decide), K515 (by decide), hM]
  refine ⟨I2, a1, a2, a3, ⟨fun r h1 h2 => ?_, fun j hj => ?_⟩, by rw [a6 0 (by decide) (by decide), e_u_same], h515, ?_, by rw [a6 61 (by decide) (by decide), e_u_ne (by decide)]; exact H.2.2.2.1, by rw [a6 69 (by decide) (by decide), e_u_ne (by decide)]; exact H.2.2.2.2.1⟩
  · rw [a5 r h1 (fun h => h2 (by unfold ScrR; omega)) (fun h => h2 (by unfold ScrR; omega)) (fun h => h2 (by unfold ScrR; omega)) (fun h => h2 (by unfold ScrR; omega)) (fun h => h2 (by unfold ScrR; omega)) (fun h => h2 (by unfold ScrR; omega)) (fun h => h2 (by unfold ScrR; omega)) (fun h => h2 (by unfold ScrR; omega)) (fun h => h2 (by unfold ScrR; omega)), e_u_na h1]
  · rw [a6 j (fun h => hj (by unfold ScrF; omega)) (fun h => hj (by unfold ScrF; omega)), e_u_ne (fun h => hj (by unfold ScrF; omega))]
  · exact RB_fr (fun k h1 h7 => by rw [a6 k (by omega) (by omega), e_u_ne (by omega)]) (fun r h1 h2 => by rw [a5 r (by omega) (by omega) (by omega) (by omega) (by omega) (by omega) (by omega) (by omega) (by omega) (by omega), e_u_na (by omega)]) (rel_rb H)
theorem FC9 {I : Nat → Nat → Int32} {B : e_B} {S : e_T} {T p r : Nat} (wb : WB B) (hp : p < bPe B) : p < 9 := by have : bPe B ≤ 9 := wb.2.2.2.1; omega
theorem F137 {d : Nat} {c1 : Int32} {I : Nat → Nat → Int32} {z : e_Z} {B : e_B} (H : Rel I z B) {x x2 : Int32} : Face d c1 I z 137 258 [.int x, .int x2] := by
  have wb := rel_wb H
  have wb4 : bPe B ≤ 9 := wb.2.2.2.1
  have hpc := (rel_bc H).2.2.2.1
  obtain ⟨t, ht, hd⟩ := rel_day H
  by_cases hm : (x < 0 ∨ ¬ x < e_n (bPe B : Nat)) ∨ (x2 < 0 ∨ ¬ x2 < e_n 2)
  · refine throw_p H ?_ ?_
    · refine (e_E_11 (d := d + 9) (y := 137) rfl).trans ?_
      show e_L (d + 9) 137 0 [.ref 1, .int x, .int x2] [] (mk I z) = _
      rw [C137_0, hpc, if_pos hm]; rfl
    · intro J z2 HJ
      refine ⟨e_n 0, e_E_ret (d := d + 9) ?_⟩
      show e_L (d + 9) 258 0 [.ref 489, .int x, .int x2] [] (mk J z2) = _
      by_cases hm1 : x < 0 ∨ ¬ x < e_n (bPe B : Nat)
      · rw [C258_0, c245n (RB_0 (rel_rb HJ)) K0 hm1, e_rI_i, C258_10, if_pos (by decide)]
      · rw [C258_0, c245y (RB_0 (rel_rb HJ)) K0 hm1, e_rI_i, C258_10, if_neg (by decide), c246n (x2 := e_n 1) (k := 1) rfl (by decide) K0 (hm.resolve_left hm1), e_rI_i, C258_19, if_pos (by decide)]
  have hm1 : ¬ (x < 0 ∨ ¬ x < e_n (bPe B : Nat)) := fun h => hm (Or.inl h)
  have hm2 : ¬ (x2 < 0 ∨ ¬ x2 < e_n ((1 + 1 : Nat) : Nat)) := fun h => hm (Or.inr h)
  obtain ⟨p, hp, rfl⟩ := in_n (by omega) hm1
  obtain ⟨k, hk, rfl⟩ := in_n (by decide) hm2
  have h9 : p < 9 := by omega
  obtain ⟨I1, a1, a2, a3, a4⟩ := lkC (d := d + 2) (z := z) H ht hd
  generalize hS : foS B (I 515) (min 30 (60 - t)) = S at a2 a3
  have hv : (if e_n (k : Nat) = 0 then rd I1 472 (e_n (p : Nat)) else rd I1 473 (e_n (p : Nat))) = (if e_n (k : Nat) = 0 then S 0 (4 + p) else S 0 (13 + p)) := by
    rw [rd_N (r := 472) (k := p) h9, rd_N (r := 473) (k := p) h9]
    have := a2.1.2.2.2.2.2.1 p hp
    rw [show I1 472 p = S 0 (4 + p) from this.1, show I1 473 p = S 0 (13 + p) from this.2.1]
  refine face_rd H (r := .inl (if e_n (k : Nat) = 0 then S 0 (4 + p) else S 0 (13 + p))) (I1 := I1) (zs_F z) rfl (e_E_ret (d := d + 9) ?_) a4 ?_
  · show e_L (d + 9) 137 0 [.ref 1, .int (e_n (p : Nat)), .int (e_n (k : Nat))] [] (mk I z) = _
    rw [C137_0, hpc, if_neg hm, a1, e_rV_n, C137_14, hv]
  · intro J z2 HJ hq
    obtain ⟨I2, b1, b2, b3, b4, b5, b6, b7, b8, b9⟩ := lkR (d := d + 2) (z := z2) (v := e_n 0) HJ (hq 515 (by decide)) ht hd
    rw [hS] at b2
    refine ⟨I2, if e_n (k : Nat) = 0 then S 0 (4 + p) else S 0 (13 + p), e_E_ret (d := d + 9) ?_, b4, b5, rfl⟩
    show e_L (d + 9) 258 0 [.ref 489, .int (e_n (p : Nat)), .int (e_n (k : Nat))] [] (mk J z2) = _
    rw [C258_0, c245y (RB_0 (rel_rb HJ)) K0 hm1, e_rI_i, C258_10, if_neg (by decide), c246y (x2 := e_n 1) (k := 1) rfl (by decide) K0 hm2, e_rI_i, C258_19, if_neg (by decide), b1, e_rV_n, C258_28 (fun _ => ixI (a := 4) (by omega) (by decide)) (fun _ => ixI (a := 13) (by omega) (by decide)), show (e_n 4 + e_n (p : Nat)).toNatClampNeg = 4 + p from ix (a := 4) (by omega), show (e_n 13 + e_n (p : Nat)).toNatClampNeg = 13 + p from ix (a := 13) (by omega), b2.1 _ (by omega), b2.1 _ (by omega)]
theorem F138 {d : Nat} {c1 : Int32} {I : Nat → Nat → Int32} {z : e_Z} {B : e_B} (H : Rel I z B) {x : Int32} : Face d c1 I z 138 259 [.int x] := by
  have wb := rel_wb H
  have wb4 : bPe B ≤ 9 := wb.2.2.2.1
  have hpc := (rel_bc H).2.2.2.1
  obtain ⟨t, ht, hd⟩ := rel_day H
  by_cases hm : x < 0 ∨ ¬ x < e_n (bPe B : Nat)
  · refine throw_p H ?_ ?_
    · refine (e_E_11 (d := d + 9) (y := 138) rfl).trans ?_
      show e_L (d + 9) 138 0 [.ref 1, .int x] [] (mk I z) = _
      rw [C138_0, hpc, if_pos hm]; rfl
    · intro J z2 HJ
      refine ⟨e_n 0, e_E_ret (d := d + 9) ?_⟩
      show e_L (d + 9) 259 0 [.ref 489, .int x] [] (mk J z2) = _
      rw [C259_0, c245n (RB_0 (rel_rb HJ)) K0 hm, e_rI_i, C259_10, if_pos (by decide)]
  obtain ⟨p, hp, rfl⟩ := in_n (by omega) hm
  have h9 : p < 9 := by omega
  obtain ⟨I1, a1, a2, a3, a4⟩ := lkC (d := d + 2) (z := z) H ht hd
  generalize hS : foS B (I 515) (min 30 (60 - t)) = S at a2 a3
  refine face_rd H (r := .inl (S 2 p)) (I1 := I1) (zs_F z) rfl (e_E_ret (d := d + 9) ?_) a4 ?_
  · show e_L (d + 9) 138 0 [.ref 1, .int (e_n (p : Nat))] [] (mk I z) = _
    rw [C138_0, hpc, if_neg hm, a1, e_rV_n, C138_9, rd_N (r := 477) (k := p) h9, a2.2.2.2.2.2.1 p hp]
  · intro J z2 HJ hq
    obtain ⟨I2, b1, b2, b3, b4, b5, b6, b7, b8, b9⟩ := lkR (d := d + 2) (z := z2) (v := e_n 0) HJ (hq 515 (by decide)) ht hd
    rw [hS] at b2
    refine ⟨I2, S 2 p, e_E_ret (d := d + 9) ?_, b4, b5, rfl⟩
    show e_L (d + 9) 259 0 [.ref 489, .int (e_n (p : Nat))] [] (mk J z2) = _
    rw [C259_0, c245y (RB_0 (rel_rb HJ)) K0 hm, e_rI_i, C259_10, if_neg (by decide), b1, e_rV_n, C259_19 (InR_n (by omega) (by omega) (by omega)), e_n_nat' (by omega), b2.2.2.2.2.1 p h9]
theorem WS_4 {B : e_B} {S : e_T} (ws : WS B S) : ∃ k : Nat, k ≤ 9 ∧ S 4 0 = e_n (k : Nat) := by
  obtain ⟨-, k, h1, h2⟩ := ws
  exact ⟨k, by omega, h1⟩
theorem F139 {d : Nat} {I : Nat → Nat → Int32} {z : e_Z} {B : e_B} (H : Rel I z B) {x : Int32} : Face d (e_n 1) I z 139 260 [.int x] := by
  have wb := rel_wb H
  obtain ⟨t, ht, hd⟩ := rel_day H
  by_cases hm : x < 0
  · refine throw_q H ?_ ?_
    · refine (e_E_11 (d := d + 9) (y := 139) rfl).trans ?_
      show e_L (d + 9) 139 0 [.ref 1, .int x] [] (mk I z) = _
      rw [C139_0, if_pos hm]; rfl
    · intro J z2 HJ
      refine ⟨e_n 0, e_E_ret (d := d + 9) ?_⟩
      show e_L (d + 9) 260 0 [.ref 489, .int x] [] (mk J z2) = _
      rw [C260_0, right_n K0 (fun h => h hm) (by decide), e_rI_i, C260_19, if_pos (by decide)]
  obtain ⟨I1, a1, a2, a3, a4⟩ := lkC (d := d + 2) (z := z) H ht hd
  generalize hS : foS B (I 515) (min 30 (60 - t)) = S at a2 a3
  obtain ⟨k, hk9, hk⟩ := WS_4 a3
  have hkn : (S 4 0).toNatClampNeg = k := by rw [hk]; exact e_n_nat' (by omega)
  have hxk : x < S 4 0 → ∃ i : Nat, i < k ∧ x = e_n (i : Nat) := by
    intro h
    rw [hk] at h
    exact in_n (by omega) (fun q => q.elim hm (fun w => w h))
  refine face_rd H (r := .inl (if x < S 4 0 then S 1 x.toNatClampNeg else e_n (-1))) (I1 := I1) (zs_F z) rfl (e_E_ret (d := d + 9) ?_) a4 ?_
  · show e_L (d + 9) 139 0 [.ref 1, .int x] [] (mk I z) = _
    rw [C139_0, if_neg hm, a1, e_rV_n, C139_19, a2.2.2.2.1]
    by_cases h : x < S 4 0
    · obtain ⟨i, hi, rfl⟩ := hxk h
      rw [if_pos h, if_pos h, rd_N (r := 476) (k := i) (Nat.lt_of_lt_of_le hi hk9), e_n_nat' (by omega), a2.2.2.2.2.1 i (by rw [hkn]; exact hi)]
    · rw [if_neg h, if_neg h]
  · intro J z2 HJ hq
    obtain ⟨I2, b1, b2, b3, b4, b5, b6, b7, b8, b9⟩ := lkR (d := d + 2) (z := z2) (v := e_n 0) HJ (hq 515 (by decide)) ht hd
    rw [hS] at b2
    refine ⟨I2, if x < S 4 0 then S 1 x.toNatClampNeg else e_n (-1), e_E_ret (d := d + 9) ?_, b4, b5, rfl⟩
    show e_L (d + 9) 260 0 [.ref 489, .int x] [] (mk J z2) = _
    rw [C260_0, right_y K0 hm, e_rI_i, C260_19, if_neg (by decide), b1, e_rV_n, C260_28 (fun h => by rw [b2.2.1] at h; obtain ⟨i, hi, rfl⟩ := hxk h; exact InR_n (by omega) (by omega) (by omega)), b2.2.1]
    by_cases h : x < S 4 0
    · obtain ⟨i, hi, rfl⟩ := hxk h
      rw [if_pos h, if_pos h, e_n_nat' (by omega), b2.2.2.2.1 i (by rw [hkn]; exact hi)]
    · rw [if_neg h, if_neg h]
theorem F140 {d : Nat} {I : Nat → Nat → Int32} {z : e_Z} {B : e_B} (H : Rel I z B) {x x2 : Int32} : Face d (e_n 2) I z 140 261 [.int x, .int x2] := by
  have wb := rel_wb H
  have wb1 : bMa B ≤ 3 := wb.1
  have wb4 : bPe B ≤ 9 := wb.2.2.2.1
  have hmc := (rel_bc H).1
  obtain ⟨t, ht, hd⟩ := rel_day H
  by_cases hm : x < 0 ∨ ¬ x < e_n (bMa B : Nat)
  · refine throw_p H ?_ ?_
    · refine (e_E_11 (d := d + 9) (y := 140) rfl).trans ?_
      show e_L (d + 9) 140 0 [.ref 1, .int x, .int x2] [] (mk I z) = _
      rw [C140_0, hmc, if_pos hm]; rfl
    · intro J z2 HJ
      refine ⟨e_n 0, e_E_ret (d := d + 9) ?_⟩
      show e_L (d + 9) 261 0 [.ref 489, .int x, .int x2] [] (mk J z2) = _
      rw [C261_0, c243n (RB_0 (rel_rb HJ)) K0 hm, e_rI_i, C261_10, if_pos (by decide)]
  by_cases hw : x2 < 0 ∨ e_n 30 < x2
  · refine throw_q H ?_ ?_
    · refine (e_E_11 (d := d + 9) (y := 140) rfl).trans ?_
      show e_L (d + 9) 140 0 [.ref 1, .int x, .int x2] [] (mk I z) = _
      rw [C140_0, hmc, if_neg hm]
      by_cases h0 : x2 < 0
      · rw [if_pos h0]; rfl
      · rw [if_neg h0, if_pos (hw.resolve_left h0)]; rfl
    · intro J z2 HJ
      refine ⟨e_n 0, e_E_ret (d := d + 9) ?_⟩
      show e_L (d + 9) 261 0 [.ref 489, .int x, .int x2] [] (mk J z2) = _
      rw [C261_0, c243y (RB_0 (rel_rb HJ)) K0 hm, e_rI_i, C261_10, if_neg (by decide), right_n K0 (fun q => hw.elim q.1 q.2) (by decide), e_rI_i, C261_25, if_pos (by decide)]
  have hw0 : ¬ x2 < 0 := fun h => hw (Or.inl h)
  have hw30 : ¬ e_n 30 < x2 := fun h => hw (Or.inr h)
  obtain ⟨m, hmm, rfl⟩ := in_n (by omega) hm
  obtain ⟨n, hn, rfl⟩ := in_n (n := 31) (by decide) (x := x2) (fun h => h.elim hw0 (fun w => w (by rw [most_n (k := 30) (by decide)]; exact hw30)))
  have h3 : m < 3 := by omega
  obtain ⟨I1, a1, a2, a3, a4, a5, a6⟩ := c12h (d := d + 6) (z := z) (s := z.2.1.1) wb (rel_wm H) (rel_mc H)
  obtain ⟨I2, b1, b2, b3, b4, b5, b6⟩ := ahead (d := d + 3) (z := z) (many := n) (sk := e_n (-1)) (cl := e_n (-1)) (sn := e_n (-1)) (sm := e_n (-1)) wb (rel_wm H) (rel_bc H) a2 a6 (by omega) ht hd (fun i hi h => absurd h.symm (e_n_neg1 (by omega))) (a4 2 (by decide) (by decide)) (a4 3 (by decide) (by decide)) (a4 4 (by decide) (by decide)) (a4 5 (by decide) (by decide))
  rw [rn_mo _ _ _ _ _ _ (by omega)] at b2 b3
  have hfo : itr (moS B (e_n (-1))) (min n (60 - t)) 0 (begS (I 515)) = foS B (I 515) (min n (60 - t)) := rfl
  rw [hfo] at b2 b3
  generalize hS : foS B (I 515) (min n (60 - t)) = S at b2 b3
  refine face_rd H (r := .inl (S 0 (31 + m))) (I1 := I2) (zs_F z) rfl (e_E_ret (d := d + 9) ?_) (fun r hr => b6 r (fun h => hr (by unfold ScrC; omega)) (fun h => hr (by unfold ScrC; omega)) (by unfold ScrC at hr; omega)) ?_
  · show e_L (d + 9) 140 0 [.ref 1, .int (e_n (m : Nat)), .int (e_n (n : Nat))] [] (mk I z) = _
    rw [C140_0, hmc, if_neg hm, if_neg hw0, if_neg hw30, a1, e_rV_n, C140_44, b1, e_rV_n, C140_52, rd_N (r := 475) (k := m) h3]
    exact congrArg (fun v => some (Sum.inl (some (Value.int v)), mk I2 (zF z z.2.1.1))) (b2.1.2.2.2.2.2.2.2 m hmm)
  · intro J z2 HJ hq
    have rb := RB_0 (v := e_n 0) (rel_rb HJ)
    have hM : ∀ j, j < 34 → e_u J 489 0 (e_n 0) 515 j = I 515 j := fun j _ => by rw [K515 (by decide), hq 515 (by decide)]
    obtain ⟨I3, c1, c2, c3, c4⟩ := c235h (d := d + 7) (I := e_u J 489 0 (e_n 0)) (z := z2) hM
    have hv : v236 I3 = e_n ((min 30 (60 - t) : Nat) : Nat) := v236_n ht (by rw [c3 515 (by decide) (by decide) (by decide) (by decide), hM 0 (by decide)]; exact hd)
    have hmin : (if e_n (n : Nat) < v236 I3 then e_n (n : Nat) else v236 I3) = e_n ((min n (60 - t) : Nat) : Nat) := by
      rw [hv]
      by_cases h : n < min 30 (60 - t)
      · rw [if_pos (by rw [e_n_ltN (by omega) (by omega)]; exact h)]; congr 2; omega
      · rw [if_neg (by rw [e_n_ltN (by omega) (by omega)]; exact h)]; congr 2; omega
    obtain ⟨I4, g1, g2, g3, g4, g5, g6⟩ := c237h (d := d + 3) (r := 525) (f0 := 0) (m0 := min n (60 - t)) (t := t) (tr := true) (z := z2) (S := begS (I 515)) (sk := e_n (-1)) R2_525 wb (by omega) (by simp; omega) (by omega) (RB_fr (fun j _ _ => c4 j (by omega) (by omega)) (fun q q1 q2 => c3 q (by omega) (by omega) (by omega) (by omega)) rb) c2 ⟨rel_wm H, 0, rfl, by have := cnt_le (bPe B) (fun p => decide (begS (I 515) 0 (4 + p) = e_n (-1))); omega⟩ (by rw [c4 61 (by decide) (by decide), e_u_ne (by decide)]; exact HJ.2.2.2.1) hd
    rw [hfo, hS] at g2
    refine ⟨I4, S 0 (31 + m), e_E_ret (d := d + 9) ?_, ⟨fun r h1 h2 => ?_, fun j hj => ?_⟩, ?_, rfl⟩
    · show e_L (d + 9) 261 0 [.ref 489, .int (e_n (m : Nat)), .int (e_n (n : Nat))] [] (mk J z2) = _
      rw [C261_0, c243y rb K0 hm, e_rI_i, C261_10, if_neg (by decide), right_y K0 ⟨hw0, hw30⟩, e_rI_i, C261_25, if_neg (by decide), c1, e_rV_n, C261_34, hmin, show (e_n 0) = e_n ((0 : Nat) : Nat) from rfl, g1, e_rV_n, C261_51 (ixI (a := 31) (by omega) (by decide)), show (e_n 31 + e_n (m : Nat)).toNatClampNeg = 31 + m from ix (a := 31) (by omega), g2.1 _ (by omega)]
    · rw [g5 r (fun h => h2 (by unfold ScrR; omega)) h1 (fun h => h2 (by unfold ScrR; omega)) (fun h => h2 (by unfold ScrR; omega)) (fun h => h2 (by unfold ScrR; omega)) (fun h => h2 (by unfold ScrR; omega)) (fun h => h2 (by unfold ScrR; omega)) (fun h => h2 (by unfold ScrR; omega)) (fun h => h2 (by unfold ScrR; omega)) (fun h => h2 (by unfold ScrR; omega)), c3 r h1 (fun h => h2 (by unfold ScrR; omega)) (fun h => h2 (by unfold ScrR; omega)) (fun h => h2 (by unfold ScrR; omega)), e_u_na h1]
    · rw [g6 j (fun h => hj (by unfold ScrF; omega)) (fun h => hj (by unfold ScrF; omega)), c4 j (fun h => hj (by unfold ScrF; omega)) (fun h => hj (by unfold ScrF; omega)), e_u_ne (fun h => hj (by unfold ScrF; omega))]
    · rw [g6 0 (by decide) (by decide), c4 0 (by decide) (by decide), e_u_same]
end S88
