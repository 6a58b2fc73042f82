/-! out, gate: face to face -/
section S99
theorem sea_no {B : e_B} {h : Int32} (wb2 : bPl B ≤ 8) : (h &&& seaB B = 0) ↔ ∀ a, a < bPl B → bt h a = true → ¬ bR B 1 a = e_n (-1) := by
  constructor
  · intro h0 a ha hb hs
    have := congrArg (fun q => bt q a) h0
    simp only [bt_and] at this
    rw [show (0 : Int32) = e_n 0 from rfl, bt_0, hb] at this
    unfold seaB at this
    rw [bt_msk (by omega)] at this
    simp [ha, hs] at this
  · intro hno
    apply bt_ext
    intro i _
    rw [bt_and, show (0 : Int32) = e_n 0 from rfl, bt_0]
    unfold seaB
    rw [bt_msk (by omega)]
    by_cases hi : i < bPl B
    · cases hb : bt h i with
      | false => rfl
      | true => simp [hno i hi hb]
    · simp [hi]
theorem c269h {d t n p pl : Nat} {J : Nat → Nat → Int32} {z : e_Z} {B : e_B} {M : Nat → Int32} {W ns : Int32} (wb : WB B) (hB : RB J B) (h69 : J 489 69 = ns) (hM : J 515 = M) (hp : p < bPe B) (ht : t ≤ 60) (hd : M 0 = e_n (t : Nat)) (hn : min 30 (60 - t) = n) (hpl : pl < bPl B) (hat : M (22 + p) = e_n (pl : Nat)) :
    ∃ J', e_E (d + 3) 269 [.ref 489, .int (e_n (p : Nat)), .int W] (mk J z) = some (.inl (some (.int (ouL B ns W (n + 1) t (e_shl (e_n 1) (e_n (pl : Nat)))))), mk J' z) ∧ ∀ r, r ≠ 527 → r ≠ 528 → J' r = J r := by
  have wb2 : bPl B ≤ 8 := wb.2.1
  have wb4 : bPe B ≤ 9 := wb.2.2.2.1
  have hplc : J 489 2 = e_n (bPl B : Nat) := hB.2.1
  have hdg := hB.2.2.2.2.2.2.2.1
  have i22 : (e_n 22 + e_n (p : Nat)).toNatClampNeg = 22 + p := ix (a := 22) (by omega)
  have g22 : InR (e_n 22 + e_n (p : Nat)) 34 := ixI (a := 22) (by omega) (by decide)
  have hlast : (if (J 515 0 + e_n 30) < e_n 60 then J 515 0 + e_n 30 else e_n 60) = e_n ((t + n : Nat) : Nat) := by
    rw [hM, hd, show e_n (t : Nat) + e_n 30 = e_n ((t + 30 : Nat) : Nat) from by rw [e_n_add]; congr 1, show (e_n 60) = e_n ((60 : Nat) : Nat) from rfl]
    by_cases h : t + 30 < 60
    · rw [if_pos (by rw [e_n_ltN (by omega) (by omega)]; exact h)]; congr 2; omega
    · rw [if_neg (by rw [e_n_ltN (by omega) (by omega)]; exact h)]; congr 2; omega
  -- where one is
  have l0 : ∀ k a (K : Nat → Nat → Int32), a + k = 8 → (∀ i, i < a → K 527 i = tf (bt (e_shl (e_n 1) (e_n (pl : Nat))) i = true)) → (∀ r, r ≠ 527 → K r = J r) → ∃ K', e_L (d + 2) 269 18 [.ref 489, .int (e_n (p : Nat)), .int W, .int (e_n ((t + n : Nat) : Nat)), .int (e_n (a : Nat)), .null] [] (mk K z) = e_L (d + 2) 269 65 [.ref 489, .int (e_n (p : Nat)), .int W, .int (e_n ((t + n : Nat) : Nat)), .int (e_n (t : Nat)), .null] [] (mk K' z) ∧ BX K' 527 (e_shl (e_n 1) (e_n (pl : Nat))) (bPl B) ∧ ∀ r, r ≠ 527 → K' r = J r := by
    intro k
    induction k with
    | zero =>
      intro a K ha hK hr
      have : a = 8 := by omega
      subst this
      refine ⟨K, ?_, fun i hi => hK i (by omega), hr⟩
      rw [C269_18 (fun h => absurd h (by decide)) (fun h => absurd h (by decide)) (fun h => absurd h (by decide)), if_neg (by decide), hr 515 (by decide), hM, hd]
    | succ k ih =>
      intro a K ha hK hr
      obtain ⟨K', e1, e2, e3⟩ := ih (a + 1) (e_u K 527 a (tf (bt (e_shl (e_n 1) (e_n (pl : Nat))) a = true))) (by omega) (fun i hi => by
        rw [e_u_at]
        by_cases hia : i = a
        · rw [if_pos hia, hia]
        · rw [if_neg hia]; exact hK i (by omega)) (fun r h1 => by rw [e_u_na h1]; exact hr r h1)
      refine ⟨K', ?_, e2, e3⟩
      have ga : InR (e_n (a : Nat)) 8 := InR_n (by omega) (by omega) (by omega)
      have hv : tf (e_n (a : Nat) = e_n (pl : Nat)) = tf (bt (e_shl (e_n 1) (e_n (pl : Nat))) a = true) := by
        rw [bt_bit (by omega)]
        unfold tf
        by_cases hap : a = pl
        · rw [if_pos (by rw [hap]), if_pos (by simp [hap])]
        · rw [if_neg (fun q => hap (by rw [e_n_inj (by omega) (by omega) (by omega) (by omega)] at q; omega)), if_neg (by simp [hap])]
      rw [C269_18 (fun _ => g22) (fun _ _ => ga) (fun _ _ => ga), if_pos (by rw [show (e_n 8) = e_n ((8 : Nat) : Nat) from rfl, e_n_ltN (by omega) (by omega)]; omega), i22, hr 515 (by decide), hM, hat, tf_and1, hv, e_n_nat' (by omega), e_n_succ]
      exact e1
  -- is a sea come to
  have l9 : ∀ (h : Int32) (D : Nat) (K : Nat → Nat → Int32), BX K 527 h (bPl B) → (∀ r, r ≠ 527 → r ≠ 528 → K r = J r) → ∀ k a, a + k = bPl B → (∀ i, i < a → bt h i = true → ¬ bR B 1 i = e_n (-1)) → e_L (d + 2) 269 109 [.ref 489, .int (e_n (p : Nat)), .int W, .int (e_n ((t + n : Nat) : Nat)), .int (e_n (D : Nat)), .int (e_n (a : Nat))] [] (mk K z) = if h &&& seaB B = 0 then e_L (d + 2) 269 151 [.ref 489, .int (e_n (p : Nat)), .int W, .int (e_n ((t + n : Nat) : Nat)), .int (e_n (D : Nat)), .int (e_n 0)] [] (mk K z) else some (.inl (some (.int (e_n (D : Nat)))), mk K z) := by
    intro h D K hX hr k
    induction k with
    | zero =>
      intro a ha hno
      have : a = bPl B := by omega
      subst this
      rw [C269_109 (fun h => absurd h (by rw [hr 489 (by decide) (by decide), hplc, e_n_ltN (by omega) (by omega)]; omega)), hr 489 (by decide) (by decide), hplc, if_neg (by rw [e_n_ltN (by omega) (by omega)]; omega), if_pos ((sea_no wb2).mpr hno)]
    | succ k ih =>
      intro a ha hno
      rw [C269_109 (fun _ => InR_n (by omega) (by omega) (by omega)), hr 489 (by decide) (by decide), hplc, if_pos (by rw [e_n_ltN (by omega) (by omega)]; omega), e_n_nat' (by omega), hX a (by omega), hr 490 (by decide) (by decide), hdg a (by omega), e_n_succ]
      by_cases hb : bt h a = true
      · rw [if_neg (by rw [tf_eq0]; exact fun q => q hb)]
        by_cases hs : bR B 1 a = e_n (-1)
        · rw [if_pos hs, if_neg (fun q => (sea_no wb2).mp q a (by omega) hb hs)]
        · rw [if_neg hs]
          exact ih (a + 1) (by omega) (fun i hi hbi => by
            by_cases hia : i = a
            · rw [hia]; exact hs
            · exact hno i (by omega) hbi)
      · rw [if_pos (by rw [tf_eq0]; exact hb)]
        exact ih (a + 1) (by omega) (fun i hi hbi => by
          by_cases hia : i = a
          · rw [hia] at hbi; exact absurd hbi hb
          · exact hno i (by omega) hbi)
  -- who is not found
  have lf : ∀ (h : Int32) (D : Nat), (∀ i, i < bPl B → bt h i = true → ¬ bR B 1 i = e_n (-1)) → ∀ k a (K : Nat → Nat → Int32), a + k = bPl B → (∀ i, i < bPl B → K 527 i = if i < a then tf (bt (unfS B W D h) i = true) else tf (bt h i = true)) → (∀ r, r ≠ 527 → r ≠ 528 → K r = J r) → ∃ K' u5, e_L (d + 2) 269 151 [.ref 489, .int (e_n (p : Nat)), .int W, .int (e_n ((t + n : Nat) : Nat)), .int (e_n (D : Nat)), .int (e_n (a : Nat))] [] (mk K z) = e_L (d + 2) 269 65 [.ref 489, .int (e_n (p : Nat)), .int W, .int (e_n ((t + n : Nat) : Nat)), .int (e_n ((D + 1 : Nat) : Nat)), u5] [] (mk K' z) ∧ BX K' 527 (unfS B W D h) (bPl B) ∧ ∀ r, r ≠ 527 → r ≠ 528 → K' r = J r := by
    intro h D hno k
    induction k with
    | zero =>
      intro a K ha hK hr
      have : a = bPl B := by omega
      subst this
      refine ⟨K, .int (e_n (bPl B : Nat)), ?_, fun i hi => by rw [hK i hi, if_pos hi], hr⟩
      rw [C269_151 (fun h => absurd h (by rw [hr 489 (by decide) (by decide), hplc, e_n_ltN (by omega) (by omega)]; omega)), hr 489 (by decide) (by decide), hplc, if_neg (by rw [e_n_ltN (by omega) (by omega)]; omega), e_n_succ]
    | succ k ih =>
      intro a K ha hK hr
      have hv : tf (¬ tf (bt h a = true) = 0 ∧ (W = e_n (-1) ∨ (e_n (D : Nat) < W ∨ (bR B 1 a + e_n (D : Nat)) - W < e_n 10))) = tf (bt (unfS B W D h) a = true) := by
        rw [bt_unf wb2 (by omega)]
        have ha2 : a < bPl B := by omega
        unfold tf bet
        by_cases hb : bt h a = true
        · have hs := hno a ha2 hb
          by_cases c1 : W = e_n (-1)
          · simp [hb, hs, ha2, c1, en_10]
          · by_cases c2 : e_n (D : Nat) < W
            · simp [hb, hs, ha2, c1, c2, en_10]
            · by_cases c3 : (bR B 1 a + e_n (D : Nat)) - W < e_n 10
              · simp [hb, hs, ha2, c1, c2, c3, en_10]
              · simp [hb, hs, ha2, c1, c2, c3, en_10]
        · simp [hb, en_00]
      obtain ⟨K', u5, e1, e2, e3⟩ := ih (a + 1) (e_u K 527 a (tf (bt (unfS B W D h) a = true))) (by omega) (fun i hi => by
        rw [e_u_at]
        by_cases hia : i = a
        · rw [if_pos hia, hia, if_pos (by omega)]
        · rw [if_neg hia, hK i hi]
          by_cases hlt : i < a
          · rw [if_pos hlt, if_pos (by omega)]
          · rw [if_neg hlt, if_neg (by omega)]) (fun r h1 h2 => by rw [e_u_na h1]; exact hr r h1 h2)
      refine ⟨K', u5, ?_, e2, e3⟩
      rw [C269_151 (fun _ => InR_n (by omega) (by omega) (by omega)), hr 489 (by decide) (by decide), hplc, if_pos (by rw [e_n_ltN (by omega) (by omega)]; omega), e_n_nat' (by omega), hK a (by omega), if_neg (Nat.lt_irrefl a), hr 490 (by decide) (by decide), hdg a (by omega), tf_and1, hv, e_n_succ]
      exact e1
  -- day by day
  have main : ∀ k D h (K : Nat → Nat → Int32) (u5 : Value), D + k = t + n + 1 → t ≤ D → (D = t → h = e_shl (e_n 1) (e_n (pl : Nat))) → BX K 527 h (bPl B) → (∀ r, r ≠ 527 → r ≠ 528 → K r = J r) → ∃ K', e_L (d + 2) 269 65 [.ref 489, .int (e_n (p : Nat)), .int W, .int (e_n ((t + n : Nat) : Nat)), .int (e_n (D : Nat)), u5] [] (mk K z) = some (.inl (some (.int (ouL B ns W k D h))), mk K' z) ∧ ∀ r, r ≠ 527 → r ≠ 528 → K' r = J r := by
    intro k
    induction k with
    | zero =>
      intro D h K u5 hD htD h0 hX hr
      refine ⟨K, ?_, hr⟩
      have hgt : e_n ((t + n : Nat) : Nat) < e_n (D : Nat) := by rw [e_n_ltN (by omega) (by omega)]; omega
      rw [C269_65 (fun h => absurd hgt h) (fun h => absurd hgt h), if_pos hgt]
      rfl
    | succ k ih =>
      intro D h K u5 hD htD h0 hX hr
      have hng : ¬ e_n ((t + n : Nat) : Nat) < e_n (D : Nat) := by rw [e_n_ltN (by omega) (by omega)]; omega
      have hrB : RB K B := RB_fr (fun k _ _ => by rw [hr 489 (by decide) (by decide)]) (fun r h1 h2 => hr r (by omega) (by omega)) hB
      obtain ⟨K1, s1, s2, s3⟩ := c268h (d := d) (D := D) (z := z) (ns := ns) wb hrB (by rw [hr 489 (by decide) (by decide)]; exact h69) hX
      have r1 : ∀ r, r ≠ 527 → r ≠ 528 → K1 r = J r := fun r a b => by rw [s3 r a b, hr r a b]
      have t109 : e_L (d + 2) 269 109 [.ref 489, .int (e_n (p : Nat)), .int W, .int (e_n ((t + n : Nat) : Nat)), .int (e_n (D : Nat)), .int (e_n 0)] [] (mk K1 z) = if h1S B ns D h &&& seaB B = 0 then e_L (d + 2) 269 151 [.ref 489, .int (e_n (p : Nat)), .int W, .int (e_n ((t + n : Nat) : Nat)), .int (e_n (D : Nat)), .int (e_n 0)] [] (mk K1 z) else some (.inl (some (.int (e_n (D : Nat)))), mk K1 z) := l9 (h1S B ns D h) D K1 s2 r1 (bPl B) 0 (by omega) (fun i hi => absurd hi (Nat.not_lt_zero i))
      have fin : ∃ K', e_L (d + 2) 269 109 [.ref 489, .int (e_n (p : Nat)), .int W, .int (e_n ((t + n : Nat) : Nat)), .int (e_n (D : Nat)), .int (e_n 0)] [] (mk K1 z) = some (.inl (some (.int (ouL B ns W (k + 1) D h))), mk K' z) ∧ ∀ r, r ≠ 527 → r ≠ 528 → K' r = J r := by
        unfold ouL
        by_cases hs : h1S B ns D h &&& seaB B = 0
        · rw [if_pos hs] at t109 ⊢
          obtain ⟨K2, v5, f1, f2, f3⟩ := lf (h1S B ns D h) D ((sea_no wb2).mp hs) (bPl B) 0 K1 (by omega) (fun i hi => by rw [if_neg (Nat.not_lt_zero i)]; exact s2 i hi) r1
          obtain ⟨K3, g1, g2⟩ := ih (D + 1) (unfS B W D (h1S B ns D h)) K2 v5 (by omega) (by omega) (fun q => by omega) f2 f3
          exact ⟨K3, t109.trans (f1.trans g1), g2⟩
        · rw [if_neg hs] at t109 ⊢
          exact ⟨K1, t109, r1⟩
      have hst : J 515 0 = e_n (t : Nat) := by rw [hM]; exact hd
      have g8 : InR (e_n (pl : Nat)) 8 := InR_n (by omega) (by omega) (by omega)
      by_cases hDt : t < D
      · obtain ⟨K', e1, e2⟩ := fin
        refine ⟨K', ?_, e2⟩
        rw [C269_65 (fun _ _ => g22) (fun _ _ => by rw [i22, hr 515 (by decide) (by decide), hM, hat]; exact g8), if_neg hng, if_pos (by rw [hr 515 (by decide) (by decide), hst, e_n_ltN (by omega) (by omega)]; exact hDt), s1, e_rV_n, C269_106]
        exact e1
      · have hDe : D = t := by omega
        have hnl : ¬ K 515 0 < e_n (D : Nat) := by rw [hr 515 (by decide) (by decide), hst, e_n_ltN (by omega) (by omega)]; omega
        by_cases hsea : bR B 1 pl = e_n (-1)
        · -- at a sea now
          have hh := h0 hDe
          have hbp : bt h pl = true := by rw [hh, bt_bit (by omega)]; simp
          have hb1 : bt (h1S B ns D h) pl = true := by unfold h1S; rw [bt_or, hbp]; rfl
          have hs1 : ¬ h1S B ns D h &&& seaB B = 0 := fun q => (sea_no wb2).mp q pl hpl hb1 hsea
          have hs0 : ¬ h &&& seaB B = 0 := fun q => (sea_no wb2).mp q pl hpl hbp hsea
          refine ⟨K, ?_, hr⟩
          have := l9 h D K hX hr (bPl B) 0 (by omega) (fun i hi => absurd hi (Nat.not_lt_zero i))
          rw [if_neg hs0] at this
          rw [C269_65 (fun _ _ => g22) (fun _ _ => by rw [i22, hr 515 (by decide) (by decide), hM, hat]; exact g8), if_neg hng, if_neg hnl, i22, hr 515 (by decide) (by decide), hM, hat, e_n_nat' (by omega), hr 490 (by decide) (by decide), hdg pl hpl, if_pos hsea]
          unfold ouL
          rw [if_neg hs1]
          exact this
        · obtain ⟨K', e1, e2⟩ := fin
          refine ⟨K', ?_, e2⟩
          rw [C269_65 (fun _ _ => g22) (fun _ _ => by rw [i22, hr 515 (by decide) (by decide), hM, hat]; exact g8), if_neg hng, if_neg hnl, i22, hr 515 (by decide) (by decide), hM, hat, e_n_nat' (by omega), hr 490 (by decide) (by decide), hdg pl hpl, if_neg hsea, s1, e_rV_n, C269_106]
          exact e1
  obtain ⟨K1, e1, e2, e3⟩ := l0 8 0 J (by decide) (fun i hi => absurd hi (Nat.not_lt_zero i)) (fun _ _ => rfl)
  obtain ⟨K2, f1, f2⟩ := main (n + 1) t (e_shl (e_n 1) (e_n (pl : Nat))) K1 .null (by omega) (Nat.le_refl _) (fun _ => rfl) e2 (fun r a _ => e3 r a)
  refine ⟨K2, e_E_ret (d := d + 2) ?_, f2⟩
  show e_L (d + 2) 269 0 [.ref 489, .int (e_n (p : Nat)), .int W, .null, .null, .null] [] (mk J z) = _
  rw [C269_0, hlast]
  exact e1.trans f1
theorem RfE_27 {J I2 : Nat → Nat → Int32} (h : ∀ r, r ≠ 527 → r ≠ 528 → I2 r = J r) : RfE J I2 := ⟨fun r _ h2 => h r (fun q => h2 (by unfold ScrR; omega)) (fun q => h2 (by unfold ScrR; omega)), fun j _ => by rw [h 489 (by decide) (by decide)]⟩
theorem F149 {d : Nat} {c1 : Int32} {I : Nat → Nat → Int32} {z : e_Z} {B : e_B} (H : Rel I z B) {x : Int32} : Face d c1 I z 149 270 [.int x] := by
  have wb := rel_wb H
  have wb2 : bPl B ≤ 8 := wb.2.1
  have wb4 : bPe B ≤ 9 := wb.2.2.2.1
  have hpc := (rel_bc H).2.2.2.1
  obtain ⟨t, ht, hd⟩ := rel_day H
  by_cases hm : x < 0 ∨ ¬ x < e_n (bPe B : Nat)
  · refine throw_p H ?_ ?_
    · refine (e_E_11 (d := d + 9) (y := 149) rfl).trans ?_
      show e_L (d + 9) 149 0 [.ref 1, .int x] [] (mk I z) = _
      rw [C149_0, hpc, if_pos hm]; rfl
    · intro J z2 HJ
      refine ⟨e_n 0, e_E_ret (d := d + 9) ?_⟩
      show e_L (d + 9) 270 0 [.ref 489, .int x] [] (mk J z2) = _
      rw [C270_0, c245n (RB_0 (rel_rb HJ)) K0 hm, e_rI_i, C270_10, if_pos (by decide), e_u_same, if_neg (by decide)]
  obtain ⟨p, hp, rfl⟩ := in_n (by omega) hm
  have hdb := and_bit (I 515 1) (show p < 32 by omega)
  have hsb := shr_bit (I 515 1) (show p < 32 by omega)
  have hde : I 51 2 = I 515 1 := (rel_mc H).2.2.1
  have h9 : p < 9 := by omega
  by_cases hdd : bt (I 515 1) p = true
  · refine face_rd H (r := .inl (e_n (-1))) (I1 := I) (zs_rf z) rfl (e_E_ret (d := d + 9) ?_) (fun _ _ => rfl) ?_
    · show e_L (d + 9) 149 0 [.ref 1, .int (e_n (p : Nat))] [] (mk I z) = _
      rw [C149_0, hpc, if_neg hm, hde, if_neg (fun h => by have := hdb.mp h; rw [hdd] at this; cases this)]
    · intro J z2 HJ hq
      refine ⟨e_u J 489 0 (e_n 0), e_n (-1), e_E_ret (d := d + 9) ?_, RfE_0, K0, rfl⟩
      show e_L (d + 9) 270 0 [.ref 489, .int (e_n (p : Nat))] [] (mk J z2) = _
      have hK : e_u J 489 0 (e_n 0) 515 = I 515 := by rw [K515 (by decide), hq 515 (by decide)]
      rw [C270_0, c245y (RB_0 (rel_rb HJ)) K0 hm, e_rI_i, C270_10, if_neg (by decide), hK, if_pos (hsb.mpr hdd), e_u_same, if_pos (by decide)]
  have hd0 : bt (I 515 1) p = false := by simpa using hdd
  generalize hn : min 30 (60 - t) = n
  obtain ⟨pl, hpl, hat⟩ := (rel_wm H).2.1 p hp
  obtain ⟨I1, z1, a1, a2, a3, a4⟩ := c136h (d := d + 2) H ht hd hp
  rw [hn] at a1
  generalize hW : foS B (I 515) n 0 (4 + p) = W at a1
  have hsc := bd_cases z
  have hB1 : BrC I1 (bd z1.2.1.1) B := by
    rw [a4]; exact BrC_fr (fun k k1 k2 k3 k4 k5 => a2 _ (by unfold ScrC; omega)) (rel_bc H)
  have hda : I 51 0 = e_n (t : Nat) := by rw [(rel_mc H).1]; exact hd
  have hwh : rd I 54 (e_n (p : Nat)) = e_n (pl : Nat) := by
    rw [rd_N (r := 54) (k := p) h9, ← hat]; exact ((rel_mc H).2.2.2.2.2.1 p hp).2.2
  have i4 : (e_n 4 + e_n (p : Nat)).toNatClampNeg = 4 + p := ix (a := 4) (by omega)
  have g4 : InR (e_n 4 + e_n (p : Nat)) 34 := ixI (a := 4) (by omega) (by decide)
  refine face_rd H (r := .inl (ouL B (e_n (-1)) W (n + 1) t (e_shl (e_n 1) (e_n (pl : Nat))))) (I1 := I1) a3 a4 (e_E_ret (d := d + 9) ?_) a2 ?_
  · show e_L (d + 9) 149 0 [.ref 1, .int (e_n (p : Nat))] [] (mk I z) = _
    rw [C149_0, hpc, if_neg hm, hde, if_pos (hdb.mpr hd0), a1, e_rI_i, hda, hwh, ← a4, C149_60, c34h (d := d + 4) (n := n) (B2_bd _) wb hB1 ht hn, e_rI_i, C149_64]
  · intro J z2 HJ hq
    obtain ⟨I2, b1, b2, b3, b4, b5, b6, b7, b8, b9⟩ := lkR (d := d + 2) (z := z2) (v := e_n 0) HJ (hq 515 (by decide)) ht hd
    rw [hn] at b2
    obtain ⟨I3, g1, g2⟩ := c269h (d := d + 6) (z := z2) (W := W) wb b7 b9 b6 hp ht hd hn hpl hat
    have hK : e_u J 489 0 (e_n 0) 515 = I 515 := by rw [K515 (by decide), hq 515 (by decide)]
    refine ⟨I3, ouL B (e_n (-1)) W (n + 1) t (e_shl (e_n 1) (e_n (pl : Nat))), e_E_ret (d := d + 9) ?_, RfE_tr b4 (RfE_27 g2), by rw [g2 489 (by decide) (by decide)]; exact b5, rfl⟩
    show e_L (d + 9) 270 0 [.ref 489, .int (e_n (p : Nat))] [] (mk J z2) = _
    rw [C270_0, c245y (RB_0 (rel_rb HJ)) K0 hm, e_rI_i, C270_10, if_neg (by decide), hK, if_neg (fun h => hdd (hsb.mp h)), b1, e_rV_n, C270_33 g4, i4, b2.1 _ (by omega), hW, g1, e_rI_i, C270_46]
/-- the gate that shuts it -/
def gaL (B : e_B) (W : Int32) (n t pl : Nat) : Nat → Nat → Int32
  | 0, _ => e_n (-1)
  | k + 1, w => if ouL B (e_n (w : Nat)) W (n + 1) t (e_shl (e_n 1) (e_n (pl : Nat))) = e_n (-1) then gaL B W n t pl k (w + 1) else e_n (w : Nat)
theorem F150 {d : Nat} {c1 : Int32} {I : Nat → Nat → Int32} {z : e_Z} {B : e_B} (H : Rel I z B) {x : Int32} : Face d c1 I z 150 271 [.int x] := by
  have wb := rel_wb H
  have wb2 : bPl B ≤ 8 := wb.2.1
  have wb3 : bWy B ≤ 12 := wb.2.2.1
  have wb4 : bPe B ≤ 9 := wb.2.2.2.1
  have hpc := (rel_bc H).2.2.2.1
  obtain ⟨t, ht, hd⟩ := rel_day H
  by_cases hm : x < 0 ∨ ¬ x < e_n (bPe B : Nat)
  · refine throw_p H ?_ ?_
    · refine (e_E_11 (d := d + 9) (y := 150) rfl).trans ?_
      show e_L (d + 9) 150 0 [.ref 1, .int x, .null, .null, .null] [] (mk I z) = _
      rw [C150_0, hpc, if_pos hm]; rfl
    · intro J z2 HJ
      refine ⟨e_n 0, e_E_ret (d := d + 9) ?_⟩
      show e_L (d + 9) 271 0 [.ref 489, .int x, .null, .null, .null] [] (mk J z2) = _
      rw [C271_0, c245n (RB_0 (rel_rb HJ)) K0 hm, e_rI_i, C271_10, if_pos (by decide), e_u_same, if_neg (by decide)]
  obtain ⟨p, hp, rfl⟩ := in_n (by omega) hm
  have hdb := and_bit (I 515 1) (show p < 32 by omega)
  have hsb := shr_bit (I 515 1) (show p < 32 by omega)
  have hde : I 51 2 = I 515 1 := (rel_mc H).2.2.1
  have h9 : p < 9 := by omega
  by_cases hdd : bt (I 515 1) p = true
  · refine face_rd H (r := .inl (e_n (-1))) (I1 := I) (zs_rf z) rfl (e_E_ret (d := d + 9) ?_) (fun _ _ => rfl) ?_
    · show e_L (d + 9) 150 0 [.ref 1, .int (e_n (p : Nat)), .null, .null, .null] [] (mk I z) = _
      rw [C150_0, hpc, if_neg hm, hde, if_neg (fun h => by have := hdb.mp h; rw [hdd] at this; cases this)]
    · intro J z2 HJ hq
      refine ⟨e_u J 489 0 (e_n 0), e_n (-1), e_E_ret (d := d + 9) ?_, RfE_0, K0, rfl⟩
      show e_L (d + 9) 271 0 [.ref 489, .int (e_n (p : Nat)), .null, .null, .null] [] (mk J z2) = _
      have hK : e_u J 489 0 (e_n 0) 515 = I 515 := by rw [K515 (by decide), hq 515 (by decide)]
      rw [C271_0, c245y (RB_0 (rel_rb HJ)) K0 hm, e_rI_i, C271_10, if_neg (by decide), hK, if_pos (hsb.mpr hdd), e_u_same, if_pos (by decide)]
  have hd0 : bt (I 515 1) p = false := by simpa using hdd
  generalize hn : min 30 (60 - t) = n
  obtain ⟨pl, hpl, hat⟩ := (rel_wm H).2.1 p hp
  obtain ⟨I1, z1, a1, a2, a3, a4⟩ := c136h (d := d + 2) H ht hd hp
  rw [hn] at a1
  generalize hW : foS B (I 515) n 0 (4 + p) = W at a1
  have hsc := bd_cases z
  have hB1 : BrC I1 (bd z1.2.1.1) B := by
    rw [a4]; exact BrC_fr (fun k k1 k2 k3 k4 k5 => a2 _ (by unfold ScrC; omega)) (rel_bc H)
  have hda1 : I1 51 0 = e_n (t : Nat) := by rw [a2 51 (by unfold ScrC; omega), (rel_mc H).1]; exact hd
  have hwh : rd I 54 (e_n (p : Nat)) = e_n (pl : Nat) := by
    rw [rd_N (r := 54) (k := p) h9, ← hat]; exact ((rel_mc H).2.2.2.2.2.1 p hp).2.2
  have i4 : (e_n 4 + e_n (p : Nat)).toNatClampNeg = 4 + p := ix (a := 4) (by omega)
  have g4 : InR (e_n 4 + e_n (p : Nat)) 34 := ixI (a := 4) (by omega) (by decide)
  generalize hO : ouL B (e_n (-1)) W (n + 1) t (e_shl (e_n 1) (e_n (pl : Nat))) = O
  refine face_rd H (r := .inl (if O = e_n (-1) then gaL B W n t pl (bWy B) 0 else e_n (-1))) (I1 := I1) a3 a4 (e_E_ret (d := d + 9) ?_) a2 ?_
  · show e_L (d + 9) 150 0 [.ref 1, .int (e_n (p : Nat)), .null, .null, .null] [] (mk I z) = _
    have loop : ∀ k w, w + k = bWy B → e_L (d + 9) 150 77 [.ref 1, .int (e_n (p : Nat)), .int (e_n (pl : Nat)), .int W, .int (e_n (w : Nat))] [] (mk I1 z1) = some (.inl (some (.int (gaL B W n t pl k w))), mk I1 z1) := by
      intro k
      induction k with
      | zero =>
        intro w hw
        rw [C150_77, hB1.2.2.1, if_neg (by rw [e_n_ltN (by omega) (by omega)]; omega)]; rfl
      | succ k ih =>
        intro w hw
        rw [C150_77, hB1.2.2.1, if_pos (by rw [e_n_ltN (by omega) (by omega)]; omega), hda1, c34h (d := d + 4) (n := n) (B2_bd _) wb hB1 ht hn, e_rI_i, C150_116]
        unfold gaL
        by_cases hc : ouL B (e_n (w : Nat)) W (n + 1) t (e_shl (e_n 1) (e_n (pl : Nat))) = e_n (-1)
        · rw [if_pos hc, if_pos hc, e_n_succ]
          exact ih (w + 1) (by omega)
        · rw [if_neg hc, if_neg hc]
    rw [C150_0, hpc, if_neg hm, hde, if_pos (hdb.mpr hd0), a1, e_rI_i, hwh, C150_44, hda1, c34h (d := d + 4) (n := n) (B2_bd _) wb hB1 ht hn, e_rI_i, C150_68, hO]
    by_cases hc : O = e_n (-1)
    · rw [if_pos hc, if_pos hc]
      exact loop (bWy B) 0 (by omega)
    · rw [if_neg hc, if_neg hc]
  · intro J z2 HJ hq
    obtain ⟨I2, b1, b2, b3, b4, b5, b6, b7, b8, b9⟩ := lkR (d := d + 2) (z := z2) (v := e_n 0) HJ (hq 515 (by decide)) ht hd
    rw [hn] at b2
    obtain ⟨I3, g1, g2⟩ := c269h (d := d + 6) (z := z2) (W := W) wb b7 b9 b6 hp ht hd hn hpl hat
    rw [hO] at g1
    have hK : e_u J 489 0 (e_n 0) 515 = I 515 := by rw [K515 (by decide), hq 515 (by decide)]
    have b3' : RB I3 B := RB_fr (fun k _ _ => by rw [g2 489 (by decide) (by decide)]) (fun r h1 h2 => g2 r (by omega) (by omega)) b7
    -- the ways, one after the other never shut
    have same : ∀ (x2 v : Int32), v ≠ e_n (-1) → ∀ k w (K : Nat → Nat → Int32), w + k = bWy B → (∀ r, r ≠ 489 → r ≠ 527 → r ≠ 528 → K r = I3 r) → (∀ j, j ≠ 69 → K 489 j = I3 489 j) → True := fun _ _ _ _ _ _ _ _ _ => trivial
    have loop : ∀ k w (K : Nat → Nat → Int32), w + k = bWy B → (∀ r, r ≠ 489 → r ≠ 527 → r ≠ 528 → K r = I3 r) → (∀ j, j ≠ 69 → K 489 j = I3 489 j) → ∃ K', e_L (d + 9) 271 59 [.ref 489, .int (e_n (p : Nat)), .int W, .int (e_n (-1)), .int (e_n (w : Nat))] [] (mk K z2) = some (.inl (some (.int (gaL B W n t pl k w))), mk K' z2) ∧ (∀ r, r ≠ 489 → r ≠ 527 → r ≠ 528 → K' r = I3 r) ∧ (∀ j, j ≠ 69 → K' 489 j = I3 489 j) ∧ K' 489 69 = e_n (-1) := by
      intro k
      induction k with
      | zero =>
        intro w K hw hr hf
        refine ⟨e_u K 489 69 (e_n (-1)), ?_, fun r a b c => by rw [e_u_na a]; exact hr r a b c, fun j hj => by rw [e_u_ne hj]; exact hf j hj, e_u_same⟩
        rw [C271_59, hf 3 (by decide), b3'.2.2.1, if_neg (by rw [e_n_ltN (by omega) (by omega)]; omega)]; rfl
      | succ k ih =>
        intro w K hw hr hf
        have hw3 : K 489 3 = e_n (bWy B : Nat) := by rw [hf 3 (by decide)]; exact b3'.2.2.1
        have rbK : RB (e_u K 489 69 (e_n (w : Nat))) B := RB_fr (fun k h1 h7 => by rw [e_u_ne (by omega), hf k (by omega)]) (fun r h1 h2 => by rw [e_u_na (by omega), hr r (by omega) (by omega) (by omega)]) b3'
        obtain ⟨K1, x1, x2⟩ := c269h (d := d + 6) (J := e_u K 489 69 (e_n (w : Nat))) (z := z2) (W := W) (ns := e_n (w : Nat)) (M := I 515) wb rbK e_u_same (by rw [e_u_na (by decide), hr 515 (by decide) (by decide) (by decide), g2 515 (by decide) (by decide)]; exact b6) hp ht hd hn hpl hat
        have r1 : ∀ r, r ≠ 489 → r ≠ 527 → r ≠ 528 → K1 r = I3 r := fun r a b c => by rw [x2 r b c, e_u_na a]; exact hr r a b c
        have f1 : ∀ j, j ≠ 69 → K1 489 j = I3 489 j := fun j hj => by rw [x2 489 (by decide) (by decide), e_u_ne hj]; exact hf j hj
        rw [C271_59, hw3, if_pos (by rw [e_n_ltN (by omega) (by omega)]; omega), if_pos rfl, x1, e_rI_i, C271_85, e_n_succ]
        unfold gaL
        by_cases hc : ouL B (e_n (w : Nat)) W (n + 1) t (e_shl (e_n 1) (e_n (pl : Nat))) = e_n (-1)
        · rw [if_pos hc, if_pos hc]
          exact ih (w + 1) K1 (by omega) r1 f1
        · rw [if_neg hc, if_neg hc]
          refine ⟨e_u K1 489 69 (e_n (-1)), ?_, fun r a b c => by rw [e_u_na a]; exact r1 r a b c, fun j hj => by rw [e_u_ne hj]; exact f1 j hj, e_u_same⟩
          rw [C271_59]
          split
          · rw [if_neg (e_n_neg1 (by omega))]
          · rfl
    have start : e_L (d + 9) 271 0 [.ref 489, .int (e_n (p : Nat)), .null, .null, .null] [] (mk J z2) = (if O = e_n (-1) then e_L (d + 9) 271 59 [.ref 489, .int (e_n (p : Nat)), .int W, .int (e_n (-1)), .int (e_n 0)] [] (mk I3 z2) else some (.inl (some (.int (e_n (-1)))), mk I3 z2)) := by
      rw [C271_0, c245y (RB_0 (rel_rb HJ)) K0 hm, e_rI_i, C271_10, if_neg (by decide), hK, if_neg (fun h => hdd (hsb.mp h)), b1, e_rV_n, C271_33 g4, i4, b2.1 _ (by omega), hW, g1, e_rI_i, C271_50]
    by_cases hc : O = e_n (-1)
    · obtain ⟨K', y1, y2, y3, y4⟩ := loop (bWy B) 0 I3 (by omega) (fun _ _ _ _ => rfl) (fun _ _ => rfl)
      rw [if_pos hc] at start
      rw [if_pos hc]
      refine ⟨K', gaL B W n t pl (bWy B) 0, e_E_ret (d := d + 9) (start.trans y1), ⟨fun r h1 h2 => ?_, fun j hj => ?_⟩, ?_, rfl⟩
      · rw [y2 r h1 (fun q => h2 (by unfold ScrR; omega)) (fun q => h2 (by unfold ScrR; omega)), (RfE_tr b4 (RfE_27 g2)).1 r h1 h2]
      · by_cases h69 : j = 69
        · subst h69; rw [y4]; exact HJ.2.2.2.2.1.symm
        · rw [y3 j h69, (RfE_tr b4 (RfE_27 g2)).2 j hj]
      · rw [y3 0 (by decide), g2 489 (by decide) (by decide)]; exact b5
    · rw [if_neg hc] at start
      rw [if_neg hc]
      exact ⟨I3, e_n (-1), e_E_ret (d := d + 9) start, RfE_tr b4 (RfE_27 g2), by rw [g2 489 (by decide) (by decide)]; exact b5, rfl⟩
end S99
