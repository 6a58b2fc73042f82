/-! place, person, grudge, sought: face to face -/
section S79
theorem v48h {I : Nat → Nat → Int32} {a b : Nat} {B : e_B} {M : Nat → Int32} {x : Int32} (ha : M3 a) (wb : WB B) (hB : BrC I b B) (hM : MoC I a B M) : v48 I a b x = itr (fun p q => q ||| (if M (22 + p) = x then e_shl (e_n 1) (e_n (p : Nat)) else e_n 0)) (bPe B) 0 (e_n 0) := by
  have wb4 : bPe B ≤ 9 := wb.2.2.2.1
  unfold v48
  rw [hB.2.2.2.1, e_n_nat' (by omega)]
  apply itr_congr
  intro p s hp
  rw [rd_N (by rw [lna3 ha]; omega), (hM.2.2.2.2.2.1 p hp).2.2]
theorem F123 {d : Nat} {c1 : Int32} {I : Nat → Nat → Int32} {z : e_Z} {B : e_B} (H : Rel I z B) {x x2 : Int32} : Face d c1 I z 123 248 [.int x, .int x2] := by
  have wb := rel_wb H
  have wb2 : bPl B ≤ 8 := wb.2.1
  have wb3 : bWy B ≤ 12 := wb.2.2.1
  have wb4 : bPe B ≤ 9 := wb.2.2.2.1
  have hb := B2_bd z.2.1.1
  have hmc := (rel_bc H).2.1
  by_cases hm : x < 0 ∨ ¬ x < e_n (bPl B : Nat)
  · refine face_rd H (r := .inr 0) (I1 := I) (zs_rf z) rfl ?_ (fun _ _ => rfl) ?_
    · refine (e_E_11 (d := d + 9) (y := 123) rfl).trans ?_
      show e_L (d + 9) 123 0 [.ref 1, .int x, .int x2] [] (mk I z) = _
      rw [C123_0, hmc, if_pos hm]; rfl
    · intro J z2 HJ hq
      refine ⟨e_u (e_u J 489 0 (e_n 0)) 489 0 (e_n 1), e_n 0, e_E_ret (d := d + 9) ?_, RfE_tr RfE_0 RfE_0, e_u_same⟩
      show e_L (d + 9) 248 0 [.ref 489, .int x, .int x2, .null, .null] [] (mk J z2) = _
      rw [C248_0, c244n (RB_0 (rel_rb HJ)) K0 hm, e_rI_i, C248_10, if_pos (by decide)]
  by_cases hw : x2 < 0 ∨ ¬ x2 < e_n ((3 : Nat) : Nat)
  · have hne := ne_n (by decide) hw
    refine face_rd H (r := .inr 0) (I1 := I) (zs_rf z) rfl ?_ (fun _ _ => rfl) ?_
    · refine (e_E_11 (d := d + 9) (y := 123) rfl).trans ?_
      show e_L (d + 9) 123 0 [.ref 1, .int x, .int x2] [] (mk I z) = _
      rw [C123_0, hmc, if_neg hm, if_neg (show ¬ x2 = 0 from hne 0 (by decide)), if_neg (show ¬ x2 = 1 from hne 1 (by decide)), if_neg (show ¬ x2 = 2 from hne 2 (by decide))]; rfl
    · intro J z2 HJ hq
      refine ⟨e_u (e_u J 489 0 (e_n 0)) 489 0 (e_n 1), e_n 0, e_E_ret (d := d + 9) ?_, RfE_tr RfE_0 RfE_0, e_u_same⟩
      show e_L (d + 9) 248 0 [.ref 489, .int x, .int x2, .null, .null] [] (mk J z2) = _
      rw [C248_0, c244y (RB_0 (rel_rb HJ)) K0 hm, e_rI_i, C248_10, if_neg (by decide), c246n (x2 := e_n 2) (k := 2) rfl (by decide) K0 hw, e_rI_i, C248_19 (fun h => absurd (by decide) h), if_pos (by decide)]
  obtain ⟨a, haa, rfl⟩ := in_n (by omega) hm
  obtain ⟨k, hk, rfl⟩ := in_n (by decide) hw
  have pre : ∀ (J : Nat → Nat → Int32) (z2 : e_Z), Rel J z2 B → e_L (d + 9) 248 0 [.ref 489, .int (e_n (a : Nat)), .int (e_n (k : Nat)), .null, .null] [] (mk J z2) = e_L (d + 9) 248 19 [.ref 489, .int (e_n (a : Nat)), .int (e_n (k : Nat)), .null, .null] [.int (e_n 1)] (mk (e_u J 489 0 (e_n 0)) z2) := by
    intro J z2 HJ
    rw [C248_0, c244y (RB_0 (rel_rb HJ)) K0 hm, e_rI_i, C248_10, if_neg (by decide), c246y (x2 := e_n 2) (k := 2) rfl (by decide) K0 hw, e_rI_i]
  have ga : InR (e_n (a : Nat)) 8 := InR_n (by omega) (by omega) (by omega)
  match k, hk with
  | 0, _ =>
    refine face_rd H (r := .inl (bR B 1 a)) (I1 := I) (zs_rf z) rfl ?_ (fun _ _ => rfl) ?_
    · refine e_E_ret (d := d + 9) ?_
      show e_L (d + 9) 123 0 [.ref 1, .int (e_n (a : Nat)), .int (e_n ((0 : Nat) : Nat))] [] (mk I z) = _
      rw [C123_0, hmc, if_neg hm, if_pos (by decide), rd_N (by rw [lnb2 hb]; omega), (rel_bc H).2.2.2.2.2.2.1 a haa]
    · intro J z2 HJ hq
      refine ⟨_, J 490 a, e_E_ret (d := d + 9) ((pre J z2 HJ).trans ((C248_19 (fun _ _ => ga)).trans ?_)), RfE_0, K0, ?_⟩
      · rw [if_neg (by decide), if_pos (by decide), e_n_nat' (by omega), K515 (by decide)]
      · exact (rel_rb HJ).2.2.2.2.2.2.2.1 a haa
  | 1, _ =>
    refine face_rd H (r := .inl (itr (fun p q => q ||| (if I 515 (22 + p) = e_n (a : Nat) then e_shl (e_n 1) (e_n (p : Nat)) else e_n 0)) (bPe B) 0 (e_n 0))) (I1 := I) (zs_rf z) rfl ?_ (fun _ _ => rfl) ?_
    · refine e_E_ret (d := d + 9) ?_
      show e_L (d + 9) 123 0 [.ref 1, .int (e_n (a : Nat)), .int (e_n ((1 : Nat) : Nat))] [] (mk I z) = _
      rw [C123_0, hmc, if_neg hm, if_neg (by decide), if_pos (by decide), v48h M3_51 wb (rel_bc H) (rel_mc H)]
    · intro J z2 HJ hq
      have hp : e_u J 489 0 (e_n 0) 489 4 = e_n (bPe B : Nat) := by rw [e_u_ne (by decide)]; exact (rel_rb HJ).2.2.2.1
      refine ⟨_, itr (fun p q => q ||| (if I 515 (22 + p) = e_n (a : Nat) then e_shl (e_n 1) (e_n (p : Nat)) else e_n 0)) (bPe B) 0 (e_n 0), e_E_ret (d := d + 9) ((pre J z2 HJ).trans ((C248_19 (fun _ _ => ga)).trans ?_)), RfE_0, K0, ?_⟩
      · rw [if_neg (by decide), if_neg (by decide)]
        refine (loopI (fun (i x2 : Int32) => e_L (d + 9) 248 40 [.ref 489, .int (e_n (a : Nat)), .int (e_n ((1 : Nat) : Nat)), .int x2, .int i] [] (mk (e_u J 489 0 (e_n 0)) z2)) (bPe B) (by omega) (fun p q => q ||| (if I 515 (22 + p) = e_n (a : Nat) then e_shl (e_n 1) (e_n (p : Nat)) else e_n 0)) (fun i a hi => ?_) (e_n 0)).trans ?_
        · refine (C248_40 (fun _ _ => ixI (a := 22) (by omega) (by decide))).trans ?_
          rw [if_pos (by rw [hp, e_n_ltN (by omega) (by omega)]; exact hi), if_pos (by decide), show (e_n 22 + e_n (i : Nat)).toNatClampNeg = 22 + i from ix (a := 22) (by omega), K515 (by decide), hq 515 (by decide)]
        · refine (C248_40 (fun h => absurd h (by rw [hp, e_n_ltN (by omega) (by omega)]; omega))).trans ?_
          rw [if_neg (by rw [hp, e_n_ltN (by omega) (by omega)]; omega)]
          refine (C248_88 (fun _ h => absurd h (by decide))).trans ?_
          split
          · rw [if_neg (by decide)]
          · rfl
      · rfl
  | 2, _ =>
    refine face_rd H (r := .inl (wyc B a (bWy B))) (I1 := I) (zs_rf z) rfl ?_ (fun _ _ => rfl) ?_
    · refine e_E_ret (d := d + 9) ?_
      show e_L (d + 9) 123 0 [.ref 1, .int (e_n (a : Nat)), .int (e_n ((2 : Nat) : Nat))] [] (mk I z) = _
      rw [C123_0, hmc, if_neg hm, if_neg (by decide), if_neg (by decide), if_pos (by decide), c329, e_rI_i, C123_82, v329_I, v32h hb wb (rel_bc H), byS_wyc wb haa]
    · intro J z2 HJ hq
      have hp : e_u J 489 0 (e_n 0) 489 4 = e_n (bPe B : Nat) := by rw [e_u_ne (by decide)]; exact (rel_rb HJ).2.2.2.1
      have hw3 : e_u J 489 0 (e_n 0) 489 3 = e_n (bWy B : Nat) := by rw [e_u_ne (by decide)]; exact (rel_rb HJ).2.2.1
      have hways := (rel_rb HJ).2.2.2.2.2.2.2.2.1
      refine ⟨_, wyc B a (bWy B), e_E_ret (d := d + 9) ((pre J z2 HJ).trans ((C248_19 (fun _ _ => ga)).trans ?_)), RfE_0, K0, ?_⟩
      · rw [if_neg (by decide), if_neg (by decide)]
        have h40 : e_L (d + 9) 248 40 [.ref 489, .int (e_n (a : Nat)), .int (e_n ((2 : Nat) : Nat)), .int (e_n 0), .int (e_n 0)] [] (mk (e_u J 489 0 (e_n 0)) z2) = e_L (d + 9) 248 88 [.ref 489, .int (e_n (a : Nat)), .int (e_n ((2 : Nat) : Nat)), .int (e_n 0), .int (e_n 0)] [] (mk (e_u J 489 0 (e_n 0)) z2) := by
          refine (C248_40 (fun _ h => absurd h (by decide))).trans ?_
          split
          · rw [if_neg (by decide)]
          · rfl
        rw [h40]
        refine (loopI (fun (i x2 : Int32) => e_L (d + 9) 248 88 [.ref 489, .int (e_n (a : Nat)), .int (e_n ((2 : Nat) : Nat)), .int x2, .int i] [] (mk (e_u J 489 0 (e_n 0)) z2)) (bWy B) (by omega) (fun w q => q + tf (bR B 2 w = e_n (a : Nat) ∨ bR B 3 w = e_n (a : Nat))) (fun i x hi => ?_) (e_n 0)).trans ?_
        · refine (C248_88 (fun _ _ => InR_n (by omega) (by omega) (by omega))).trans ?_
          rw [if_pos (by rw [hw3, e_n_ltN (by omega) (by omega)]; exact hi), if_pos (by decide), e_n_nat' (by omega), K515 (by decide), K515 (by decide), (hways i hi).1, (hways i hi).2.1]
        · refine (C248_88 (fun h => absurd h (by rw [hw3, e_n_ltN (by omega) (by omega)]; omega))).trans ?_
          rw [if_neg (by rw [hw3, e_n_ltN (by omega) (by omega)]; omega)]
          rfl
      · rfl
theorem F124 {d : Nat} {c1 : Int32} {I : Nat → Nat → Int32} {z : e_Z} {B : e_B} (H : Rel I z B) {x x2 : Int32} : Face d c1 I z 124 249 [.int x, .int x2] := by
  have wb := rel_wb H
  have wb4 : bPe B ≤ 9 := wb.2.2.2.1
  have hb := B2_bd z.2.1.1
  have hmc := (rel_bc H).2.2.2.1
  by_cases hm : x < 0 ∨ ¬ x < e_n (bPe B : Nat)
  · refine face_rd H (r := .inr 0) (I1 := I) (zs_rf z) rfl ?_ (fun _ _ => rfl) ?_
    · rw [c124, hmc, if_pos hm]; rfl
    · intro J z2 HJ hq
      refine ⟨e_u (e_u J 489 0 (e_n 0)) 489 0 (e_n 1), e_n 0, e_E_ret (d := d + 9) ?_, RfE_tr RfE_0 RfE_0, e_u_same⟩
      show e_L (d + 9) 249 0 [.ref 489, .int x, .int x2] [] (mk J z2) = _
      rw [C249_0, c245n (RB_0 (rel_rb HJ)) K0 hm, e_rI_i, C249_10, if_pos (by decide)]
  by_cases hw : x2 < 0 ∨ ¬ x2 < e_n ((6 : Nat) : Nat)
  · have hne := ne_n (by decide) hw
    refine face_rd H (r := .inr 0) (I1 := I) (zs_rf z) rfl ?_ (fun _ _ => rfl) ?_
    · rw [c124, hmc, if_neg hm, if_neg (show ¬ x2 = 0 from hne 0 (by decide)), if_neg (show ¬ x2 = 1 from hne 1 (by decide)), if_neg (show ¬ x2 = 2 from hne 2 (by decide)), if_neg (show ¬ x2 = 3 from hne 3 (by decide)), if_neg (show ¬ x2 = 4 from hne 4 (by decide)), if_neg (show ¬ x2 = 5 from hne 5 (by decide))]; rfl
    · intro J z2 HJ hq
      refine ⟨e_u (e_u J 489 0 (e_n 0)) 489 0 (e_n 1), e_n 0, e_E_ret (d := d + 9) ?_, RfE_tr RfE_0 RfE_0, e_u_same⟩
      show e_L (d + 9) 249 0 [.ref 489, .int x, .int x2] [] (mk J z2) = _
      rw [C249_0, c245y (RB_0 (rel_rb HJ)) K0 hm, e_rI_i, C249_10, if_neg (by decide), c246n (x2 := e_n 5) (k := 5) rfl (by decide) K0 hw, e_rI_i, C249_19 (fun h => absurd (by decide) h) (fun h => absurd (by decide) h) (fun h => absurd (by decide) h) (fun h => absurd (by decide) h) (fun h => absurd (by decide) h) (fun h => absurd (by decide) h), if_pos (by decide)]
  obtain ⟨p, hp, rfl⟩ := in_n (by omega) hm
  obtain ⟨k, hk, rfl⟩ := in_n (by decide) hw
  have gp : InR (e_n (p : Nat)) 9 := InR_n (by omega) (by omega) (by omega)
  have pre : ∀ (J : Nat → Nat → Int32) (z2 : e_Z), Rel J z2 B → e_L (d + 9) 249 0 [.ref 489, .int (e_n (p : Nat)), .int (e_n (k : Nat))] [] (mk J z2) = some (.inl (some (.int (if e_n (k : Nat) = 0 then J 494 p else if e_n (k : Nat) = 1 then J 515 (22 + p) else if e_n (k : Nat) = 2 then J 495 p else if e_n (k : Nat) = 3 then J 515 (4 + p) else if e_n (k : Nat) = 4 then J 515 (13 + p) else saleS B (J 515) p))), mk (e_u J 489 0 (e_n 0)) z2) := by
    intro J z2 HJ
    rw [C249_0, c245y (RB_0 (rel_rb HJ)) K0 hm, e_rI_i, C249_10, if_neg (by decide), c246y (x2 := e_n 5) (k := 5) rfl (by decide) K0 hw, e_rI_i, C249_19 (fun _ _ => gp) (fun _ _ _ => ixI (a := 22) (by omega) (by decide)) (fun _ _ _ _ => gp) (fun _ _ _ _ _ => ixI (a := 4) (by omega) (by decide)) (fun _ _ _ _ _ _ => ixI (a := 13) (by omega) (by decide)) (fun _ _ _ _ _ _ => gp), if_neg (by decide), e_n_nat' (show p < 2147483648 by omega), show (e_n 22 + e_n (p : Nat)).toNatClampNeg = 22 + p from ix (a := 22) (by omega), show (e_n 4 + e_n (p : Nat)).toNatClampNeg = 4 + p from ix (a := 4) (by omega), show (e_n 13 + e_n (p : Nat)).toNatClampNeg = 13 + p from ix (a := 13) (by omega), v229_s (M := J 515) wb (RB_0 (rel_rb HJ)) (fun j _ => by rw [K515 (by decide)]) hp, K515 (by decide), K515 (by decide), K515 (by decide)]
  have fin : ∀ r : Int32, (∀ J : Nat → Nat → Int32, (∀ s, 489 ≤ s → J s = I s) → (if e_n (k : Nat) = 0 then J 494 p else if e_n (k : Nat) = 1 then J 515 (22 + p) else if e_n (k : Nat) = 2 then J 495 p else if e_n (k : Nat) = 3 then J 515 (4 + p) else if e_n (k : Nat) = 4 then J 515 (13 + p) else saleS B (J 515) p) = r) → e_E (d + 10) 124 [.ref 1, .int (e_n (p : Nat)), .int (e_n (k : Nat))] (mk I z) = OutC (.inl r) I z → Face d c1 I z 124 249 [.int (e_n (p : Nat)), .int (e_n (k : Nat))] := by
    intro r h1 h2
    refine face_rd H (r := .inl r) (I1 := I) (zs_rf z) rfl h2 (fun _ _ => rfl) ?_
    intro J z2 HJ hq
    exact ⟨_, _, e_E_ret (d := d + 9) (pre J z2 HJ), RfE_0, K0, h1 J hq⟩
  have hbp := (rel_bc H).2.2.2.2.2.2.2.2.1 p hp
  have hrp := (rel_rb H).2.2.2.2.2.2.2.2.2.1 p hp
  have hmp := (rel_mc H).2.2.2.2.2.1 p hp
  have h9 : p < 9 := by omega
  match k, hk with
  | 0, _ =>
    refine fin (bR B 5 p) (fun J hq => ?_) ?_
    · rw [if_pos (by decide), hq 494 (by decide)]; exact hrp.1
    · rw [c124, hmc, if_neg hm, if_pos (by decide), rd_N (by rw [lnb15 hb]; omega), hbp.1]; rfl
  | 1, _ =>
    refine fin (I 515 (22 + p)) (fun J hq => ?_) ?_
    · rw [if_neg (by decide), if_pos (by decide), hq 515 (by decide)]
    · rw [c124, hmc, if_neg hm, if_neg (by decide), if_pos (by decide), rd_N (r := 54) (k := p) h9]
      exact congrArg (fun v => some (Sum.inl (some (Value.int v)), mk I z)) hmp.2.2
  | 2, _ =>
    refine fin (bR B 6 p) (fun J hq => ?_) ?_
    · rw [if_neg (by decide), if_neg (by decide), if_pos (by decide), hq 495 (by decide)]; exact hrp.2
    · rw [c124, hmc, if_neg hm, if_neg (by decide), if_neg (by decide), if_pos (by decide), rd_N (by rw [lnb17 hb]; omega), hbp.2.1]; rfl
  | 3, _ =>
    refine fin (I 515 (4 + p)) (fun J hq => ?_) ?_
    · rw [if_neg (by decide), if_neg (by decide), if_neg (by decide), if_pos (by decide), hq 515 (by decide)]
    · rw [c124, hmc, if_neg hm, if_neg (by decide), if_neg (by decide), if_neg (by decide), if_pos (by decide), rd_N (r := 52) (k := p) h9]
      exact congrArg (fun v => some (Sum.inl (some (Value.int v)), mk I z)) hmp.1
  | 4, _ =>
    refine fin (I 515 (13 + p)) (fun J hq => ?_) ?_
    · rw [if_neg (by decide), if_neg (by decide), if_neg (by decide), if_neg (by decide), if_pos (by decide), hq 515 (by decide)]
    · rw [c124, hmc, if_neg hm, if_neg (by decide), if_neg (by decide), if_neg (by decide), if_neg (by decide), if_pos (by decide), rd_N (r := 53) (k := p) h9]
      exact congrArg (fun v => some (Sum.inl (some (Value.int v)), mk I z)) hmp.2.1
  | 5, _ =>
    refine fin (saleS B (I 515) p) (fun J hq => ?_) ?_
    · rw [if_neg (by decide), if_neg (by decide), if_neg (by decide), if_neg (by decide), if_neg (by decide), hq 515 (by decide)]
    · rw [c124, hmc, if_neg hm, if_neg (by decide), if_neg (by decide), if_neg (by decide), if_neg (by decide), if_neg (by decide), if_pos (by decide), rd_N (by rw [lnb15 hb]; omega), hbp.1, e_min_9, (rel_mc H).2.2.2.1]; rfl
theorem F125 {d : Nat} {c1 : Int32} {I : Nat → Nat → Int32} {z : e_Z} {B : e_B} (H : Rel I z B) {x x2 : Int32} : Face d c1 I z 125 250 [.int x, .int x2] := by
  have wb := rel_wb H
  have wb1 : bMa B ≤ 3 := wb.1
  have wb4 : bPe B ≤ 9 := wb.2.2.2.1
  have hb := B2_bd z.2.1.1
  have hmc := (rel_bc H).1
  have hpc := (rel_bc H).2.2.2.1
  by_cases hm : (x < 0 ∨ ¬ x < e_n (bMa B : Nat)) ∨ (x2 < 0 ∨ ¬ x2 < e_n (bPe B : Nat))
  · refine face_rd H (r := .inr 0) (I1 := I) (zs_rf z) rfl ?_ (fun _ _ => rfl) ?_
    · refine (e_E_11 (d := d + 9) (y := 125) rfl).trans ?_
      show e_L (d + 9) 125 0 [.ref 1, .int x, .int x2] [] (mk I z) = _
      rw [C125_0, hmc, hpc, if_pos hm]; rfl
    · intro J z2 HJ hq
      refine ⟨e_u (e_u J 489 0 (e_n 0)) 489 0 (e_n 1), e_n 0, e_E_ret (d := d + 9) ?_, RfE_tr RfE_0 RfE_0, e_u_same⟩
      show e_L (d + 9) 250 0 [.ref 489, .int x, .int x2] [] (mk J z2) = _
      by_cases hm1 : x < 0 ∨ ¬ x < e_n (bMa B : Nat)
      · rw [C250_0, c243n (RB_0 (rel_rb HJ)) K0 hm1, e_rI_i, C250_10, if_pos (by decide)]
      · rw [C250_0, c243y (RB_0 (rel_rb HJ)) K0 hm1, e_rI_i, C250_10, if_neg (by decide), c245n (RB_0 (rel_rb HJ)) K0 (hm.resolve_left hm1), e_rI_i, C250_18, if_pos (by decide)]
  · have hm1 : ¬ (x < 0 ∨ ¬ x < e_n (bMa B : Nat)) := fun h => hm (Or.inl h)
    have hm2 : ¬ (x2 < 0 ∨ ¬ x2 < e_n (bPe B : Nat)) := fun h => hm (Or.inr h)
    obtain ⟨m, hmm, rfl⟩ := in_n (by omega) hm1
    obtain ⟨p, hpp, rfl⟩ := in_n (by omega) hm2
    obtain ⟨I1, e1, e2⟩ := c55h (d := d + 6) (z := z) hb M3_51 (rel_bc H) (rel_mc H) wb hmm hpp
    refine face_rd H (r := .inl (grS B (I 515) m p)) (I1 := I1) (zs_rf z) rfl ?_ (fun r hr => e2 r (fun h => hr (by unfold ScrC; omega)) (fun h => hr (by unfold ScrC; omega))) ?_
    · refine e_E_ret (d := d + 9) ?_
      show e_L (d + 9) 125 0 [.ref 1, .int (e_n (m : Nat)), .int (e_n (p : Nat))] [] (mk I z) = _
      rw [C125_0, hmc, hpc, if_neg hm, e1, e_rI_i, C125_26]
    · intro J z2 HJ hq
      obtain ⟨I2, e3, e4⟩ := c227h (d := d + 6) (z := z2) (I := e_u J 489 0 (e_n 0)) (M := J 515) R2_515 wb (RB_0 (rel_rb HJ)) (fun j _ => by rw [K515 (by decide)]) hmm hpp
      refine ⟨I2, grS B (J 515) m p, e_E_ret (d := d + 9) ?_, ⟨fun r h1 h2 => ?_, fun j hj => ?_⟩, ?_, ?_⟩
      · show e_L (d + 9) 250 0 [.ref 489, .int (e_n (m : Nat)), .int (e_n (p : Nat))] [] (mk J z2) = _
        rw [C250_0, c243y (RB_0 (rel_rb HJ)) K0 hm1, e_rI_i, C250_10, if_neg (by decide), c245y (RB_0 (rel_rb HJ)) K0 hm2, e_rI_i, C250_18, if_neg (by decide), e3, e_rI_i, C250_31]
      · rw [e4 r (fun h => h2 (by unfold ScrR; omega)) (fun h => h2 (by unfold ScrR; omega)), e_u_na h1]
      · rw [e4 489 (by decide) (by decide)]; exact e_u_ne (fun h => hj (by unfold ScrF; omega))
      · rw [e4 489 (by decide) (by decide)]; exact e_u_same
      · rw [hq 515 (by decide)]
theorem c292h {d : Nat} {J : Nat → Nat → Int32} {z : e_Z} {B : e_B} (H : Rel J z B) : e_E (d + 3) 292 [.ref 489] (mk J z) = some (.inl (some (.int ((lm B (J 515) &&& (J 515 1 ^^^ e_n (-1))) &&& (aw B (J 515) ^^^ e_n (-1))))), mk (e_u J 489 0 (e_n 0)) z) := by
  have rb := RB_0 (v := e_n 0) (rel_rb H)
  refine e_E_ret (d := d + 2) ?_
  show e_L (d + 2) 292 0 [.ref 489] [] (mk J z) = _
  rw [C292_0, c223h (B := B) (M := J 515) R2_515 (rel_wb H).2.2.2.1 rb.2.2.2.1 (fun j _ => by rw [K515 (by decide)]), e_rI_i, C292_13, c240h (B := B) (M := J 515) R2_515 (rel_wb H) (rel_wm H) rb (fun j _ => by rw [K515 (by decide)]), e_rI_i, C292_30, K515 (by decide)]
end S79
