/-! surest: the reference; face to face -/
section S99c
def edW (B : e_B) (D w a b : Nat) : Prop := a = b ∨ (¬ bR B 1 a = e_n (-1) ∧ ∃ v, v < w ∧ pas B (e_n (D : Nat)) (e_n (-1)) v ∧ ((wA B v = a ∧ b = wZ B v) ∨ (wZ B v = a ∧ b = wA B v)))
def PU (n : Nat) (F : Nat → Nat) (E : Nat → Nat → Prop) (u : Nat → Nat) : Prop := ∀ b, b < n → (∀ a, a < n → E a b → F a ≤ u b) ∧ ∃ a, a < n ∧ E a b ∧ u b = F a
theorem PU_cg {n : Nat} {F : Nat → Nat} {E E' : Nat → Nat → Prop} {u : Nat → Nat} (h : ∀ a b, E a b ↔ E' a b) (H : PU n F E u) : PU n F E' u := by
  intro b hb
  obtain ⟨h1, a, ha, he, hu⟩ := H b hb
  exact ⟨fun a ha he => h1 a ha ((h a b).mpr he), a, ha, (h a b).mp he, hu⟩
def upU (F : Nat → Nat) (s : Prop) [Decidable s] (a b : Nat) (u : Nat → Nat) : Nat → Nat := fun y => if y = b ∧ ¬ s ∧ u b < F a then F a else u y
theorem PU_add {n : Nat} {F : Nat → Nat} {E : Nat → Nat → Prop} {u : Nat → Nat} {s : Prop} [Decidable s] {a b : Nat} (ha : a < n) (H : PU n F E u) : PU n F (fun x y => E x y ∨ (x = a ∧ y = b ∧ ¬ s)) (upU F s a b u) := by
  intro y hy
  obtain ⟨h1, c, hc, he, hu⟩ := H y hy
  unfold upU
  by_cases hcnd : y = b ∧ ¬ s ∧ u b < F a
  · rw [if_pos hcnd]
    obtain ⟨e1, e2, e3⟩ := hcnd
    subst e1
    refine ⟨fun x hx hE => ?_, a, ha, Or.inr ⟨rfl, rfl, e2⟩, rfl⟩
    rcases hE with hE | ⟨rfl, -, -⟩
    · have := h1 x hx hE; omega
    · exact Nat.le_refl _
  · rw [if_neg hcnd]
    refine ⟨fun x hx hE => ?_, c, hc, Or.inl he, hu⟩
    rcases hE with hE | ⟨rfl, rfl, e3⟩
    · exact h1 x hx hE
    · exact Nat.le_of_not_lt (fun q => hcnd ⟨rfl, e3, q⟩)
theorem edS_W {B : e_B} {D a b : Nat} (wb : WB B) (ha : a < bPl B) : edS B D a b = true ↔ edW B D (bWy B) a b := by
  have wb2 : bPl B ≤ 8 := wb.2.1
  unfold edS edW
  rw [Bool.or_eq_true, Bool.and_eq_true, decide_eq_true_eq, bt_byS wb]
  have hbit : ∀ x, (bt (e_shl (e_n 1) (e_n (a : Nat))) x = true) = (x = a) := fun x => by rw [bt_bit (by omega)]; simp
  simp only [hbit]
  simp
theorem c272h {d a b : Nat} {J : Nat → Nat → Int32} {z : e_Z} {B : e_B} {F u : Nat → Nat} (wb2 : bPl B ≤ 8) (hB : RB J B) (ha : a < bPl B) (hb : b < bPl B) (hF : ∀ c, c < bPl B → J 529 c = e_n (F c : Nat)) (hu : ∀ c, c < bPl B → J 530 c = e_n (u c : Nat)) (hF2 : ∀ c, F c < 2147483648) (hu2 : u b < 2147483648) : ∃ J', e_E (d + 1) 272 [.ref 489, .int (e_n (a : Nat)), .int (e_n (b : Nat))] (mk J z) = some (.inl none, mk J' z) ∧ (∀ c, c < bPl B → J' 530 c = e_n (upU F (bR B 1 a = e_n (-1)) a b u c : Nat)) ∧ ∀ r, r ≠ 530 → J' r = J r := by
  have hdg : J 490 a = bR B 1 a := hB.2.2.2.2.2.2.2.1 a ha
  rw [c272 (InR_n (by omega) (by omega) (by omega)) (fun _ => InR_n (by omega) (by omega) (by omega)), e_n_nat' (by omega), e_n_nat' (by omega), hdg, hF a ha, hu b hb]
  by_cases hs : bR B 1 a = e_n (-1)
  · rw [if_pos hs]
    refine ⟨J, rfl, fun c hc => ?_, fun _ _ => rfl⟩
    unfold upU
    rw [if_neg (fun h => h.2.1 hs)]; exact hu c hc
  · rw [if_neg hs]
    by_cases hl : u b < F a
    · rw [if_pos (by rw [e_n_ltN hu2 (hF2 a)]; exact hl)]
      refine ⟨_, rfl, fun c hc => ?_, fun r hr => e_u_na hr⟩
      rw [e_u_at]
      unfold upU
      by_cases hcb : c = b
      · rw [if_pos hcb, if_pos ⟨hcb, hs, hl⟩]
      · rw [if_neg hcb, if_neg (fun h => hcb h.1)]; exact hu c hc
    · rw [if_neg (by rw [e_n_ltN hu2 (hF2 a)]; exact hl)]
      refine ⟨J, rfl, fun c hc => ?_, fun _ _ => rfl⟩
      unfold upU
      rw [if_neg (fun h => hl h.2.2)]; exact hu c hc
theorem upU_lt {F u : Nat → Nat} {s : Prop} [Decidable s] {a b y : Nat} (hF2 : ∀ c, F c < 2147483648) (hu2 : ∀ c, u c < 2147483648) : upU F s a b u y < 2147483648 := by
  unfold upU; split
  · exact hF2 a
  · exact hu2 y
theorem F151 {d : Nat} {I : Nat → Nat → Int32} {z : e_Z} {B : e_B} (H : Rel I z B) {x x2 : Int32} : Face d (e_n 2) I z 151 273 [.int x, .int x2] := by
  have wb := rel_wb H
  have wb2 : bPl B ≤ 8 := wb.2.1
  have wb3 : bWy B ≤ 12 := wb.2.2.1
  have wb4 : bPe B ≤ 9 := wb.2.2.2.1
  have hpc := (rel_bc H).2.2.2.1
  obtain ⟨t, ht, hd⟩ := rel_day H
  by_cases hm : x < 0 ∨ ¬ x < e_n (bPe B : Nat)
  · refine throw_p H ?_ ?_
    · refine (e_E_11 (d := d + 9) (y := 151) rfl).trans ?_
      show e_L (d + 9) 151 0 [.ref 1, .int x, .int x2] [] (mk I z) = _
      rw [C151_0, hpc, if_pos hm]; rfl
    · intro J z2 HJ
      refine ⟨e_n 0, e_E_ret (d := d + 9) ?_⟩
      show e_L (d + 9) 273 0 [.ref 489, .int x, .int x2, .null, .null, .null, .null] [] (mk J z2) = _
      rw [C273_0, c245n (RB_0 (rel_rb HJ)) K0 hm, e_rI_i, C273_10, if_pos (by decide)]
  by_cases hw : x2 < e_n 1 ∨ e_n 9 < x2
  · refine throw_q H ?_ ?_
    · refine (e_E_11 (d := d + 9) (y := 151) rfl).trans ?_
      show e_L (d + 9) 151 0 [.ref 1, .int x, .int x2] [] (mk I z) = _
      rw [C151_0, hpc, if_neg hm]
      by_cases h0 : x2 < e_n 1
      · rw [if_pos h0]; rfl
      · rw [if_neg h0, if_pos (hw.resolve_left h0)]; rfl
    · intro J z2 HJ
      refine ⟨e_n 0, e_E_ret (d := d + 9) ?_⟩
      show e_L (d + 9) 273 0 [.ref 489, .int x, .int x2, .null, .null, .null, .null] [] (mk J z2) = _
      rw [C273_0, c245y (RB_0 (rel_rb HJ)) K0 hm, e_rI_i, C273_10, if_neg (by decide), right_n K0 (fun q => hw.elim q.1 q.2) (by decide), e_rI_i, C273_25, if_pos (by decide)]
  obtain ⟨p, hp, rfl⟩ := in_n (by omega) hm
  have hw1 : ¬ x2 < e_n 1 := fun h => hw (Or.inl h)
  have hw9 : ¬ e_n 9 < x2 := fun h => hw (Or.inr h)
  obtain ⟨N, hN1, hN9, rfl⟩ : ∃ N : Nat, 1 ≤ N ∧ N ≤ 9 ∧ x2 = e_n (N : Nat) := by
    obtain ⟨a, h1, h2, rfl⟩ := e_n_toI x2
    rw [e_n_lt (by omega) (by omega) (by omega) (by omega)] at hw1
    rw [e_n_lt (by omega) (by omega) (by omega) (by omega)] at hw9
    exact ⟨a.toNat, by omega, by omega, by congr 1; omega⟩
  have hdb := and_bit (I 515 1) (show p < 32 by omega)
  have hsb := shr_bit (I 515 1) (show p < 32 by omega)
  have hde : I 51 2 = I 515 1 := (rel_mc H).2.2.1
  have h9 : p < 9 := by omega
  by_cases hdd : bt (I 515 1) p = true
  · refine face_rd H (r := .inl (e_n 0)) (I1 := I) (zs_rf z) rfl (e_E_ret (d := d + 9) ?_) (fun _ _ => rfl) ?_
    · show e_L (d + 9) 151 0 [.ref 1, .int (e_n (p : Nat)), .int (e_n (N : Nat))] [] (mk I z) = _
      rw [C151_0, hpc, if_neg hm, if_neg hw1, if_neg hw9, hde, if_neg (fun h => by have := hdb.mp h; rw [hdd] at this; cases this)]
    · intro J z2 HJ hq
      refine ⟨e_u J 489 0 (e_n 0), e_n 0, e_E_ret (d := d + 9) ?_, RfE_0, K0, rfl⟩
      show e_L (d + 9) 273 0 [.ref 489, .int (e_n (p : Nat)), .int (e_n (N : Nat)), .null, .null, .null, .null] [] (mk J z2) = _
      have hK : e_u J 489 0 (e_n 0) 515 = I 515 := by rw [K515 (by decide), hq 515 (by decide)]
      rw [C273_0, c245y (RB_0 (rel_rb HJ)) K0 hm, e_rI_i, C273_10, if_neg (by decide), right_y K0 ⟨hw1, hw9⟩, e_rI_i, C273_25, if_neg (by decide), hK, if_pos (hsb.mpr hdd)]
  have hd0 : bt (I 515 1) p = false := by simpa using hdd
  generalize hn : min 30 (60 - t) = n
  obtain ⟨pl, hpl, hat⟩ := (rel_wm H).2.1 p hp
  obtain ⟨I1, z1, a1, a2, a3, a4⟩ := c136h (d := d + 2) H ht hd hp
  rw [hn] at a1
  generalize hW : foS B (I 515) n 0 (4 + p) = W at a1
  have hsc := bd_cases z
  have hB1 : BrC I1 (bd z1.2.1.1) B := by
    rw [a4]; exact BrC_fr (fun k k1 k2 k3 k4 k5 => a2 _ (by unfold ScrC; omega)) (rel_bc H)
  have hda : I 51 0 = e_n (t : Nat) := by rw [(rel_mc H).1]; exact hd
  have hwh : rd I 54 (e_n (p : Nat)) = e_n (pl : Nat) := by
    rw [rd_N (r := 54) (k := p) h9, ← hat]; exact ((rel_mc H).2.2.2.2.2.1 p hp).2.2
  have i4 : (e_n 4 + e_n (p : Nat)).toNatClampNeg = 4 + p := ix (a := 4) (by omega)
  have g4 : InR (e_n 4 + e_n (p : Nat)) 34 := ixI (a := 4) (by omega) (by decide)
  have i22 : (e_n 22 + e_n (p : Nat)).toNatClampNeg = 22 + p := ix (a := 22) (by omega)
  have g22 : InR (e_n 22 + e_n (p : Nat)) 34 := ixI (a := 22) (by omega) (by decide)
  obtain ⟨I2, x1, x2⟩ := c36h (d := d + 4) (I := I1) (z := z1) (W := W) (B2_bd _) wb hB1 ht hN1 hN9 hpl
  refine face_rd H (r := .inl (e_n (GS B W N t pl : Nat))) (I1 := I2) a3 a4 (e_E_ret (d := d + 9) ?_) (fun r hr => by rw [x2 r (by rw [a4]; exact fun h => hr (by unfold ScrC; omega)) (by rw [a4]; exact fun h => hr (by unfold ScrC; omega)), a2 r hr]) ?_
  · show e_L (d + 9) 151 0 [.ref 1, .int (e_n (p : Nat)), .int (e_n (N : Nat))] [] (mk I z) = _
    rw [C151_0, hpc, if_neg hm, if_neg hw1, if_neg hw9, hde, if_pos (hdb.mpr hd0), a1, e_rI_i, hda, hwh, ← a4, C151_83, x1, e_rI_i, C151_86]
  · intro J z2 HJ hq
    obtain ⟨R, b1, b2, b3, b4, b5, b6, b7, b8, b9⟩ := lkR (d := d + 2) (z := z2) (v := e_n 0) HJ (hq 515 (by decide)) ht hd
    rw [hn] at b2
    have hK : e_u J 489 0 (e_n 0) 515 = I 515 := by rw [K515 (by decide), hq 515 (by decide)]
    have hplc : R 489 2 = e_n (bPl B : Nat) := b7.2.1
    have hwyc : R 489 3 = e_n (bWy B : Nat) := b7.2.2.1
    have hways := b7.2.2.2.2.2.2.2.2.1
    have hdg := b7.2.2.2.2.2.2.2.1
    have FSlt : ∀ k a, k ≤ 9 → FS B W t pl k a < 2147483648 := fun k a hk => Nat.lt_of_le_of_lt (Nat.le_trans (FS_le k a) (pow9 hk)) (by decide)
    -- where one is
    have l0 : ∀ k a (K : Nat → Nat → Int32), a + k = 8 → (∀ i, i < a → K 529 i = e_n (FS B W t pl 0 i : Nat)) → (∀ r, r ≠ 529 → r ≠ 530 → K r = R r) → ∃ K', e_L (d + 9) 273 59 [.ref 489, .int (e_n (p : Nat)), .int (e_n (N : Nat)), .int W, .int (e_n (a : Nat)), .null, .null] [] (mk K z2) = e_L (d + 9) 273 106 [.ref 489, .int (e_n (p : Nat)), .int (e_n (N : Nat)), .int W, .int (e_n (t : Nat)), .null, .null] [] (mk K' z2) ∧ (∀ i, i < bPl B → K' 529 i = e_n (FS B W t pl 0 i : Nat)) ∧ ∀ r, r ≠ 529 → r ≠ 530 → K' r = R r := by
      intro k
      induction k with
      | zero =>
        intro a K ha hKf hr
        have : a = 8 := by omega
        subst this
        refine ⟨K, ?_, fun i hi => hKf i (by omega), hr⟩
        rw [C273_59 (fun h => absurd h (by decide)) (fun h => absurd h (by decide)) (fun h => absurd h (by decide)), if_neg (by decide), hr 515 (by decide) (by decide), b6, hd]
      | succ k ih =>
        intro a K ha hKf hr
        obtain ⟨K', e1, e2, e3⟩ := ih (a + 1) (e_u K 529 a (e_n (FS B W t pl 0 a : Nat))) (by omega) (fun i hi => by
          rw [e_u_at]
          by_cases hia : i = a
          · rw [if_pos hia, hia]
          · rw [if_neg hia]; exact hKf i (by omega)) (fun r h1 h2 => by rw [e_u_na h1]; exact hr r h1 h2)
        refine ⟨K', ?_, e2, e3⟩
        have ga : InR (e_n (a : Nat)) 8 := InR_n (by omega) (by omega) (by omega)
        have hv : tf (e_n (a : Nat) = e_n (pl : Nat)) = e_n (FS B W t pl 0 a : Nat) := by
          unfold tf FS
          by_cases hap : a = pl
          · rw [if_pos (by rw [hap]), if_pos hap]; rfl
          · rw [if_neg (fun q => hap (by rw [e_n_inj (by omega) (by omega) (by omega) (by omega)] at q; omega)), if_neg hap]; rfl
        rw [C273_59 (fun _ => g22) (fun _ _ => ga) (fun _ _ => ga), if_pos (by rw [show (e_n 8) = e_n ((8 : Nat) : Nat) from rfl, e_n_ltN (by omega) (by omega)]; omega), i22, hr 515 (by decide) (by decide), b6, hat, hv, e_n_nat' (by omega), e_n_succ]
        exact e1
    -- a copy
    have lc : ∀ (F : Nat → Nat) (D : Nat) (u6 : Value), ∀ k a (K : Nat → Nat → Int32), a + k = bPl B → (∀ i, i < bPl B → K 529 i = e_n (F i : Nat)) → (∀ i, i < a → K 530 i = e_n (F i : Nat)) → (∀ r, r ≠ 529 → r ≠ 530 → K r = R r) → ∃ K', e_L (d + 9) 273 122 [.ref 489, .int (e_n (p : Nat)), .int (e_n (N : Nat)), .int W, .int (e_n (D : Nat)), .int (e_n (a : Nat)), u6] [] (mk K z2) = e_L (d + 9) 273 154 [.ref 489, .int (e_n (p : Nat)), .int (e_n (N : Nat)), .int W, .int (e_n (D : Nat)), .int (e_n 0), u6] [] (mk K' z2) ∧ (∀ i, i < bPl B → K' 529 i = e_n (F i : Nat)) ∧ (∀ i, i < bPl B → K' 530 i = e_n (F i : Nat)) ∧ ∀ r, r ≠ 529 → r ≠ 530 → K' r = R r := by
      intro F D u6 k
      induction k with
      | zero =>
        intro a K ha h29 h30 hr
        refine ⟨K, ?_, h29, fun i hi => h30 i (by omega), hr⟩
        rw [C273_122 (fun h => absurd h (by rw [hr 489 (by decide) (by decide), hplc, e_n_ltN (by omega) (by omega)]; omega)), hr 489 (by decide) (by decide), hplc, if_neg (by rw [e_n_ltN (by omega) (by omega)]; omega)]
      | succ k ih =>
        intro a K ha h29 h30 hr
        obtain ⟨K', e1, e2, e3, e4⟩ := ih (a + 1) (e_u K 530 a (e_n (F a : Nat))) (by omega) (fun i hi => by rw [e_u_na (by decide)]; exact h29 i hi) (fun i hi => by
          rw [e_u_at]
          by_cases hia : i = a
          · rw [if_pos hia, hia]
          · rw [if_neg hia]; exact h30 i (by omega)) (fun r h1 h2 => by rw [e_u_na h2]; exact hr r h1 h2)
        refine ⟨K', ?_, e2, e3, e4⟩
        rw [C273_122 (fun _ => InR_n (by omega) (by omega) (by omega)), hr 489 (by decide) (by decide), hplc, if_pos (by rw [e_n_ltN (by omega) (by omega)]; omega), e_n_nat' (by omega), h29 a (by omega), e_n_succ]
        exact e1
    -- the ways
    have lw : ∀ (F : Nat → Nat) (D : Nat) (u6 : Value), (∀ c, F c < 2147483648) → ∀ k w (K : Nat → Nat → Int32) (u : Nat → Nat), w + k = bWy B → (∀ i, i < bPl B → K 529 i = e_n (F i : Nat)) → (∀ i, i < bPl B → K 530 i = e_n (u i : Nat)) → (∀ c, u c < 2147483648) → PU (bPl B) F (edW B D w) u → (∀ r, r ≠ 529 → r ≠ 530 → K r = R r) → ∃ K' u', e_L (d + 9) 273 154 [.ref 489, .int (e_n (p : Nat)), .int (e_n (N : Nat)), .int W, .int (e_n (D : Nat)), .int (e_n (w : Nat)), u6] [] (mk K z2) = e_L (d + 9) 273 240 [.ref 489, .int (e_n (p : Nat)), .int (e_n (N : Nat)), .int W, .int (e_n (D : Nat)), .int (tf (¬ W = e_n (-1) ∧ ¬ e_n (D : Nat) < W)), .int (e_n 0)] [] (mk K' z2) ∧ (∀ i, i < bPl B → K' 529 i = e_n (F i : Nat)) ∧ (∀ i, i < bPl B → K' 530 i = e_n (u' i : Nat)) ∧ PU (bPl B) F (edW B D (bWy B)) u' ∧ ∀ r, r ≠ 529 → r ≠ 530 → K' r = R r := by
      intro F D u6 hF2 k
      induction k with
      | zero =>
        intro w K u hw h29 h30 hu2 hP hr
        have : w = bWy B := by omega
        subst this
        refine ⟨K, u, ?_, h29, h30, hP, hr⟩
        rw [C273_154, hr 489 (by decide) (by decide), hwyc, if_neg (by rw [e_n_ltN (by omega) (by omega)]; omega)]
      | succ k ih =>
        intro w K u hw h29 h30 hu2 hP hr
        have hwb : w < bWy B := by omega
        obtain ⟨wa1, wa2⟩ := wA_n wb hwb
        obtain ⟨wz1, wz2⟩ := wZ_n wb hwb
        have w491 : ∀ K : Nat → Nat → Int32, (∀ r, r ≠ 529 → r ≠ 530 → K r = R r) → K 491 w = e_n (wA B w : Nat) ∧ K 492 w = e_n (wZ B w : Nat) := fun K hr => ⟨by rw [hr 491 (by decide) (by decide), (hways w hwb).1, wa2], by rw [hr 492 (by decide) (by decide), (hways w hwb).2.1, wz2]⟩
        have gw : InR (e_n (w : Nat)) 12 := InR_n (by omega) (by omega) (by omega)
        have h69 : K 489 69 = e_n (-1) := by rw [hr 489 (by decide) (by decide)]; exact b9
        have w493 : K 493 w = bR B 4 w := by rw [hr 493 (by decide) (by decide), (hways w hwb).2.2]
        rw [C273_154, hr 489 (by decide) (by decide), hwyc, if_pos (by rw [e_n_ltN (by omega) (by omega)]; omega), c253 (fun _ => gw), e_rI_i, h69, e_n_nat' (show w < 2147483648 by omega), w493, C273_171 (fun _ => gw), e_n_nat' (show w < 2147483648 by omega), (w491 K hr).1, (w491 K hr).2, e_n_succ]
        by_cases hpp : pas B (e_n (D : Nat)) (e_n (-1)) w
        · have htf : ¬ tf (e_n (w : Nat) = e_n (-1) ∨ e_n (D : Nat) < bR B 4 w) = 0 := by rw [tf_eq0]; exact fun q => q hpp
          have rbK : ∀ K : Nat → Nat → Int32, (∀ r, r ≠ 529 → r ≠ 530 → K r = R r) → RB K B := fun K hr => RB_fr (fun k _ _ => by rw [hr 489 (by decide) (by decide)]) (fun r h1 h2 => hr r (by omega) (by omega)) b7
          obtain ⟨K1, e1, e2, e3⟩ := c272h (d := d + 8) (z := z2) (a := wA B w) (b := wZ B w) wb2 (rbK K hr) wa1 wz1 h29 h30 hF2 (hu2 _)
          have r1 : ∀ r, r ≠ 529 → r ≠ 530 → K1 r = R r := fun r h1 h2 => by rw [e3 r h2, hr r h1 h2]
          obtain ⟨K2, f1, f2, f3⟩ := c272h (d := d + 8) (z := z2) (a := wZ B w) (b := wA B w) (u := upU F (bR B 1 (wA B w) = e_n (-1)) (wA B w) (wZ B w) u) wb2 (rbK K1 r1) wz1 wa1 (fun c hc => by rw [e3 529 (by decide)]; exact h29 c hc) e2 hF2 (upU_lt hF2 hu2)
          have r2 : ∀ r, r ≠ 529 → r ≠ 530 → K2 r = R r := fun r h1 h2 => by rw [f3 r h2, r1 r h1 h2]
          obtain ⟨K3, u3, g1, g2, g3, g4', g5⟩ := ih (w + 1) K2 (upU F (bR B 1 (wZ B w) = e_n (-1)) (wZ B w) (wA B w) (upU F (bR B 1 (wA B w) = e_n (-1)) (wA B w) (wZ B w) u)) (by omega) (fun i hi => by rw [f3 529 (by decide), e3 529 (by decide)]; exact h29 i hi) f2 (fun c => upU_lt hF2 (fun c => upU_lt hF2 hu2)) (PU_cg (fun a b => by
            unfold edW
            constructor
            · rintro ((h | ⟨rfl, rfl, hs⟩) | ⟨rfl, rfl, hs⟩)
              · rcases h with h | ⟨h1, v, hv, h2⟩
                · exact Or.inl h
                · exact Or.inr ⟨h1, v, by omega, h2⟩
              · exact Or.inr ⟨hs, w, by omega, hpp, Or.inl ⟨rfl, rfl⟩⟩
              · exact Or.inr ⟨hs, w, by omega, hpp, Or.inr ⟨rfl, rfl⟩⟩
            · rintro (h | ⟨h1, v, hv, h2, h3⟩)
              · exact Or.inl (Or.inl (Or.inl h))
              · by_cases hvw : v = w
                · subst hvw
                  rcases h3 with ⟨h4, h5⟩ | ⟨h4, h5⟩
                  · exact Or.inl (Or.inr ⟨h4.symm, h5, by rw [h4]; exact h1⟩)
                  · exact Or.inr ⟨h4.symm, h5, by rw [h4]; exact h1⟩
                · exact Or.inl (Or.inl (Or.inr ⟨h1, v, by omega, h2, h3⟩))) (PU_add (s := bR B 1 (wZ B w) = e_n (-1)) (b := wA B w) wz1 (PU_add (s := bR B 1 (wA B w) = e_n (-1)) (b := wZ B w) wa1 hP))) r2
          refine ⟨K3, u3, ?_, g2, g3, g4', g5⟩
          rw [if_neg htf, e1, e_rV_n, C273_195 gw, e_n_nat' (show w < 2147483648 by omega), (w491 K1 r1).1, (w491 K1 r1).2, f1, e_rV_n, C273_213, e_n_succ]
          exact g1
        · have htf : tf (e_n (w : Nat) = e_n (-1) ∨ e_n (D : Nat) < bR B 4 w) = 0 := by rw [tf_eq0]; exact hpp
          obtain ⟨K3, u3, g1, g2, g3, g4', g5⟩ := ih (w + 1) K u (by omega) h29 h30 hu2 (PU_cg (fun a b => by
            unfold edW
            constructor
            · rintro (h | ⟨h1, v, hv, h2⟩)
              · exact Or.inl h
              · exact Or.inr ⟨h1, v, by omega, h2⟩
            · rintro (h | ⟨h1, v, hv, h2, h3⟩)
              · exact Or.inl h
              · by_cases hvw : v = w
                · rw [hvw] at h2; exact absurd h2 hpp
                · exact Or.inr ⟨h1, v, by omega, h2, h3⟩) hP) hr
          refine ⟨K3, u3, ?_, g2, g3, g4', g5⟩
          rw [if_pos htf]
          exact g1
    -- a morning's chances
    have lm2 : ∀ (D kk : Nat) (u : Nat → Nat), D = t + kk → (∀ i, i < bPl B → u i = mx (bPl B) (fun a => if edS B D a i then FS B W t pl kk a else 0)) → ∀ k a (K : Nat → Nat → Int32), a + k = bPl B → (∀ i, i < bPl B → K 530 i = e_n (u i : Nat)) → (∀ i, i < a → K 529 i = e_n (FS B W t pl (kk + 1) i : Nat)) → (∀ r, r ≠ 529 → r ≠ 530 → K r = R r) → ∃ K', e_L (d + 9) 273 240 [.ref 489, .int (e_n (p : Nat)), .int (e_n (N : Nat)), .int W, .int (e_n (D : Nat)), .int (tf (¬ W = e_n (-1) ∧ ¬ e_n (D : Nat) < W)), .int (e_n (a : Nat))] [] (mk K z2) = e_L (d + 9) 273 106 [.ref 489, .int (e_n (p : Nat)), .int (e_n (N : Nat)), .int W, .int (e_n ((D + 1 : Nat) : Nat)), .int (tf (¬ W = e_n (-1) ∧ ¬ e_n (D : Nat) < W)), .int (e_n (bPl B : Nat))] [] (mk K' z2) ∧ (∀ i, i < bPl B → K' 529 i = e_n (FS B W t pl (kk + 1) i : Nat)) ∧ ∀ r, r ≠ 529 → r ≠ 530 → K' r = R r := by
      intro D kk u hD hu k
      induction k with
      | zero =>
        intro a K ha h30 h29 hr
        refine ⟨K, ?_, fun i hi => h29 i (by omega), hr⟩
        rw [C273_240 (fun h => absurd h (by rw [hr 489 (by decide) (by decide), hplc, e_n_ltN (by omega) (by omega)]; omega)), hr 489 (by decide) (by decide), hplc, if_neg (by rw [e_n_ltN (by omega) (by omega)]; omega), e_n_succ, show a = bPl B by omega]
      | succ k ih =>
        intro a K ha h30 h29 hr
        have hab : a < bPl B := by omega
        have hwt : (if tf (¬ W = e_n (-1) ∧ ¬ e_n (D : Nat) < W) = 0 then e_n 10 else if bR B 1 a = e_n (-1) then e_n 10 else e_n 10 - bR B 1 a) = e_n (wtS B W D a : Nat) := by
          rw [← wt_n (W := W) (D := D) wb hab]
          by_cases c1 : bR B 1 a = e_n (-1)
          · rw [if_pos c1, if_pos c1]; split <;> rfl
          · rw [if_neg c1, if_neg c1]
            by_cases c2 : W = e_n (-1)
            · rw [if_pos c2, if_pos (by rw [tf_eq0]; exact fun h => h.1 c2)]
            · rw [if_neg c2]
              by_cases c3 : e_n (D : Nat) < W
              · rw [if_pos c3, if_pos (by rw [tf_eq0]; exact fun h => h.2 c3)]
              · rw [if_neg c3, if_neg (by rw [tf_eq0]; exact fun h => h ⟨c2, c3⟩)]
        obtain ⟨K', e1, e2, e3⟩ := ih (a + 1) (e_u K 529 a (e_n (FS B W t pl (kk + 1) a : Nat))) (by omega) (fun i hi => by rw [e_u_na (by decide)]; exact h30 i hi) (fun i hi => by
          rw [e_u_at]
          by_cases hia : i = a
          · rw [if_pos hia, hia]
          · rw [if_neg hia]; exact h29 i (by omega)) (fun r h1 h2 => by rw [e_u_na h1]; exact hr r h1 h2)
        refine ⟨K', ?_, e2, e3⟩
        have hfs : u a * wtS B W D a = FS B W t pl (kk + 1) a := by rw [hu a hab, hD]; rfl
        rw [C273_240 (fun _ => InR_n (by omega) (by omega) (by omega)), hr 489 (by decide) (by decide), hplc, if_pos (by rw [e_n_ltN (by omega) (by omega)]; omega), e_n_nat' (by omega), h30 a hab, hr 490 (by decide) (by decide), hdg a hab, hwt, e_n_mul, show (u a : Int) * (wtS B W D a : Nat) = ((FS B W t pl (kk + 1) a : Nat) : Int) by rw [← hfs, Int.natCast_mul], e_n_succ]
        exact e1
    -- day by day
    have main : ∀ m kk (K : Nat → Nat → Int32) (u5 u6 : Value), kk + m = N → (∀ i, i < bPl B → K 529 i = e_n (FS B W t pl kk i : Nat)) → (∀ r, r ≠ 529 → r ≠ 530 → K r = R r) → ∃ K' u6', e_L (d + 9) 273 106 [.ref 489, .int (e_n (p : Nat)), .int (e_n (N : Nat)), .int W, .int (e_n ((t + kk : Nat) : Nat)), u5, u6] [] (mk K z2) = e_L (d + 9) 273 313 [.ref 489, .int (e_n (p : Nat)), .int (e_n (N : Nat)), .int W, .int (e_n 0), .int (e_n 0), u6'] [] (mk K' z2) ∧ (∀ i, i < bPl B → K' 529 i = e_n (FS B W t pl N i : Nat)) ∧ ∀ r, r ≠ 529 → r ≠ 530 → K' r = R r := by
      intro m
      induction m with
      | zero =>
        intro kk K u5 u6 hk h29 hr
        have : kk = N := by omega
        subst this
        refine ⟨K, u6, ?_, h29, hr⟩
        rw [C273_106, hr 515 (by decide) (by decide), b6, hd, if_neg (by rw [e_n_add, show ((t : Nat) : Int) + (kk : Nat) = ((t + kk : Nat) : Int) by omega, e_n_ltN (by omega) (by omega)]; omega)]
      | succ m ih =>
        intro kk K u5 u6 hk h29 hr
        obtain ⟨K1, e1, e2, e3, e4⟩ := lc (FS B W t pl kk) (t + kk) u6 (bPl B) 0 K (by omega) h29 (fun i hi => absurd hi (Nat.not_lt_zero i)) hr
        obtain ⟨K2, u2, f1, f2, f3, f4, f5⟩ := lw (FS B W t pl kk) (t + kk) u6 (fun c => FSlt kk c (by omega)) (bWy B) 0 K1 (FS B W t pl kk) (by omega) e2 e3 (fun c => FSlt kk c (by omega)) (fun b hb => ⟨fun a _ he => by
          rcases he with he | ⟨-, v, hv, -⟩
          · rw [he]; exact Nat.le_refl _
          · omega, b, hb, Or.inl rfl, rfl⟩) e4
        obtain ⟨K3, g1, g2, g3⟩ := lm2 (t + kk) kk u2 rfl (fun i hi => by
          obtain ⟨h1, a, ha, he, hu⟩ := f4 i hi
          exact (mx_is (fun a ha h => h1 a ha ((edS_W wb ha).mp h)) ⟨a, ha, (edS_W wb ha).mpr he, hu⟩).symm) (bPl B) 0 K2 (by omega) f3 (fun i hi => absurd hi (Nat.not_lt_zero i)) f5
        obtain ⟨K4, u6', y1, y2, y3⟩ := ih (kk + 1) K3 (.int (tf (¬ W = e_n (-1) ∧ ¬ e_n ((t + kk : Nat) : Nat) < W))) (.int (e_n (bPl B : Nat))) (by omega) g2 g3
        refine ⟨K4, u6', ?_, y2, y3⟩
        rw [C273_106, hr 515 (by decide) (by decide), b6, hd, if_pos (by rw [e_n_add, show ((t : Nat) : Int) + (N : Nat) = ((t + N : Nat) : Int) by omega, e_n_ltN (by omega) (by omega)]; omega), show (e_n 0) = e_n ((0 : Nat) : Nat) from rfl, e1, show (e_n 0) = e_n ((0 : Nat) : Nat) from rfl, f1, show (e_n 0) = e_n ((0 : Nat) : Nat) from rfl, g1]
        exact y1
    obtain ⟨K1, e1, e2, e3⟩ := l0 8 0 R (by decide) (fun i hi => absurd hi (Nat.not_lt_zero i)) (fun _ _ _ => rfl)
    obtain ⟨K2, u6', f1, f2, f3⟩ := main N 0 K1 .null .null (by omega) e2 e3
    -- the best of all
    have lb : ∀ k a, a + k = bPl B → e_L (d + 9) 273 313 [.ref 489, .int (e_n (p : Nat)), .int (e_n (N : Nat)), .int W, .int (e_n (mx a (fun a => FS B W t pl N a) : Nat)), .int (e_n (a : Nat)), u6'] [] (mk K2 z2) = some (.inl (some (.int (e_n (GS B W N t pl : Nat)))), mk K2 z2) := by
      intro k
      induction k with
      | zero =>
        intro a ha
        have : a = bPl B := by omega
        subst this
        rw [C273_313 (fun h => absurd h (by rw [f3 489 (by decide) (by decide), hplc, e_n_ltN (by omega) (by omega)]; omega)), f3 489 (by decide) (by decide), hplc, if_neg (by rw [e_n_ltN (by omega) (by omega)]; omega), FG hpl N]
      | succ k ih =>
        intro a ha
        have hmlt : mx a (fun a => FS B W t pl N a) < 2147483648 := Nat.lt_of_le_of_lt (mx_le (fun a _ => Nat.le_trans (FS_le N a) (pow9 hN9))) (by decide)
        have hst : (if e_n (mx a (fun a => FS B W t pl N a) : Nat) < e_n (FS B W t pl N a : Nat) then e_n (FS B W t pl N a : Nat) else e_n (mx a (fun a => FS B W t pl N a) : Nat)) = e_n (mx (a + 1) (fun a => FS B W t pl N a) : Nat) := by
          rw [mx_succ, ← e_max_n hmlt (FSlt N a hN9)]; rfl
        rw [C273_313 (fun _ => InR_n (by omega) (by omega) (by omega)), f3 489 (by decide) (by decide), hplc, if_pos (by rw [e_n_ltN (by omega) (by omega)]; omega), e_n_nat' (by omega), f2 a (by omega), hst, e_n_succ]
        exact ih (a + 1) (by omega)
    have fr : RfE R K2 := ⟨fun r _ h2 => f3 r (fun q => h2 (by unfold ScrR; omega)) (fun q => h2 (by unfold ScrR; omega)), fun j _ => by rw [f3 489 (by decide) (by decide)]⟩
    refine ⟨K2, e_n (GS B W N t pl : Nat), e_E_ret (d := d + 9) ?_, RfE_tr b4 fr, by rw [f3 489 (by decide) (by decide)]; exact b5, rfl⟩
    show e_L (d + 9) 273 0 [.ref 489, .int (e_n (p : Nat)), .int (e_n (N : Nat)), .null, .null, .null, .null] [] (mk J z2) = _
    rw [C273_0, c245y (RB_0 (rel_rb HJ)) K0 hm, e_rI_i, C273_10, if_neg (by decide), right_y K0 ⟨hw1, hw9⟩, e_rI_i, C273_25, if_neg (by decide), hK, if_neg (fun h => hdd (hsb.mp h)), b1, e_rV_n, C273_47 g4, i4, b2.1 _ (by omega), hW]
    exact e1.trans (f1.trans (lb (bPl B) 0 (by omega)))
end S99c
