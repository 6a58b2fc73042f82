/-! refuge -/
section S99f
def ref1 (B : e_B) (t : Nat) (q : Int32) : Int32 := q ||| byS B (q &&& (seaB B ^^^ e_n (-1))) (e_n (t : Nat)) (e_n (-1))
def rfE (B : e_B) (t p i : Nat) : Prop := ¬ bR B 1 p = e_n (-1) ∧ ∃ w, w < bWy B ∧ pas B (e_n (t : Nat)) (e_n (-1)) w ∧ ((wA B w = p ∧ i = wZ B w) ∨ (wZ B w = p ∧ i = wA B w))
theorem bt_sea {B : e_B} (wb2 : bPl B ≤ 8) {p : Nat} (hp : p < bPl B) : bt (seaB B) p = decide (bR B 1 p = e_n (-1)) := by
  unfold seaB
  rw [bt_msk (by omega)]
  simp [hp]
theorem ref1_g {B : e_B} {t : Nat} (wb : WB B) (q : Int32) (i : Nat) : bt (ref1 B t q) i = true ↔ (bt q i = true ∨ ∃ p, p < bPl B ∧ bt q p = true ∧ rfE B t p i) := by
  have wb2 : bPl B ≤ 8 := wb.2.1
  unfold ref1
  rw [bt_or, Bool.or_eq_true, bt_byS wb]
  have hb : ∀ p, p < bPl B → (bt (q &&& (seaB B ^^^ e_n (-1))) p = true ↔ (bt q p = true ∧ ¬ bR B 1 p = e_n (-1))) := fun p hp => by
    rw [bt_and, bt_not _ (by omega), bt_sea wb2 hp, Bool.and_eq_true]
    simp
  constructor
  · rintro (h | ⟨w, hw, hp, ⟨h1, h2⟩ | ⟨h1, h2⟩⟩)
    · exact Or.inl h
    · have := (hb _ (wA_n wb hw).1).mp h1
      exact Or.inr ⟨wA B w, (wA_n wb hw).1, this.1, this.2, w, hw, hp, Or.inl ⟨rfl, h2⟩⟩
    · have := (hb _ (wZ_n wb hw).1).mp h1
      exact Or.inr ⟨wZ B w, (wZ_n wb hw).1, this.1, this.2, w, hw, hp, Or.inr ⟨rfl, h2⟩⟩
  · rintro (h | ⟨p, hp, h1, hs, w, hw, hpp, ⟨h2, h3⟩ | ⟨h2, h3⟩⟩)
    · exact Or.inl h
    · exact Or.inr ⟨w, hw, hpp, Or.inl ⟨by rw [h2]; exact (hb p hp).mpr ⟨h1, hs⟩, h3⟩⟩
    · exact Or.inr ⟨w, hw, hpp, Or.inr ⟨by rw [h2]; exact (hb p hp).mpr ⟨h1, hs⟩, h3⟩⟩
/-- of the places come to the safest, from the last one down -/
def reL (B : e_B) (S : Int32) : Nat → Nat → Nat
  | 0, b => b
  | k + 1, b => reL B S k (if bt S k = true then (if bR B 1 b < bR B 1 k then b else k) else b)
theorem F153 {d : Nat} {c1 : Int32} {I : Nat → Nat → Int32} {z : e_Z} {B : e_B} (H : Rel I z B) {x : Int32} : Face d c1 I z 153 291 [.int x] := by
  have wb := rel_wb H
  have wb2 : bPl B ≤ 8 := wb.2.1
  have wb3 : bWy B ≤ 12 := wb.2.2.1
  have wb4 : bPe B ≤ 9 := wb.2.2.2.1
  have hb := B2_bd z.2.1.1
  have hB := rel_bc H
  have hpc := hB.2.2.2.1
  obtain ⟨t, ht, hd⟩ := rel_day H
  by_cases hm : x < 0 ∨ ¬ x < e_n (bPe B : Nat)
  · refine throw_p H ?_ ?_
    · refine (e_E_11 (d := d + 9) (y := 153) rfl).trans ?_
      show e_L (d + 9) 153 0 [.ref 1, .int x] [] (mk I z) = _
      rw [C153_0, hpc, if_pos hm]; rfl
    · intro J z2 HJ
      refine ⟨e_n 0, e_E_ret (d := d + 9) ?_⟩
      show e_L (d + 9) 291 0 [.ref 489, .int x, .null, .null] [] (mk J z2) = _
      rw [C291_0, c245n (RB_0 (rel_rb HJ)) K0 hm, e_rI_i, C291_10, if_pos (by decide)]
  obtain ⟨p, hp, rfl⟩ := in_n (by omega) hm
  have h9 : p < 9 := by omega
  obtain ⟨pl, hpl, hat⟩ := (rel_wm H).2.1 p hp
  have hda : I 51 0 = e_n (t : Nat) := by rw [(rel_mc H).1]; exact hd
  have hwh : rd I 54 (e_n (p : Nat)) = e_n (pl : Nat) := by
    rw [rd_N (r := 54) (k := p) h9, ← hat]; exact ((rel_mc H).2.2.2.2.2.1 p hp).2.2
  generalize hh : e_shl (e_n 1) (e_n (pl : Nat)) = h0
  have hb0 : ∀ i, bt h0 i = true ↔ i = pl := fun i => by rw [← hh, bt_bit (by omega)]; simp
  have hfun : (fun j => bt h0 j = true) = (fun j => j = pl) := funext fun j => propext (hb0 j)
  have hs0 : ∀ i, i = pl → i < bPl B := fun i hi => by omega
  have hE : ∀ p i, rfE B t p i → i < bPl B := by
    rintro p i ⟨-, w, hw, -, ⟨-, h⟩ | ⟨-, h⟩⟩
    · rw [h]; exact (wZ_n wb hw).1
    · rw [h]; exact (wA_n wb hw).1
  have hclo : ∀ k i, bt (rK (ref1 B t) h0 k) i = true ↔ clo (bPl B) (rfE B t) (fun j => j = pl) k i := fun k i => by rw [rK_clo (ref1_g wb), hfun]
  generalize hSS : rK (ref1 B t) h0 8 = SS
  have hin : ∀ k b, k ≤ bPl B → b < bPl B → reL B SS k b < bPl B := by
    intro k
    induction k with
    | zero => intro b _ hb; exact hb
    | succ k ih =>
      intro b hk hb
      unfold reL
      refine ih _ (by omega) ?_
      split
      · split
        · exact hb
        · omega
      · exact hb
  refine face_rd H (r := .inl (e_n (reL B SS (bPl B) pl : Nat))) (I1 := I) (zs_rf z) rfl (e_E_ret (d := d + 9) ?_) (fun _ _ => rfl) ?_
  · show e_L (d + 9) 153 0 [.ref 1, .int (e_n (p : Nat))] [] (mk I z) = _
    have dg : ∀ a, a < bPl B → rd I (bd z.2.1.1 + 2) (e_n (a : Nat)) = bR B 1 a := fun a ha => by rw [rd_N (by rw [lnb2 hb]; omega)]; exact hB.2.2.2.2.2.2.1 a ha
    have l1 : ∀ k i, i + k = 8 → e_L (d + 8) 39 16 [.ref (bd z.2.1.1 + 1), .int (e_n (pl : Nat)), .int (e_n (t : Nat)), .int (seaB B ^^^ e_n (-1)), .int (rK (ref1 B t) h0 i), .int (e_n (i : Nat)), .null] [] (mk I z) = e_L (d + 8) 39 55 [.ref (bd z.2.1.1 + 1), .int (e_n (pl : Nat)), .int (e_n (t : Nat)), .int (seaB B ^^^ e_n (-1)), .int SS, .int (e_n (pl : Nat)), .int (e_n ((bPl B : Int) - 1))] [] (mk I z) := by
      intro k
      induction k with
      | zero =>
        intro i hi
        have : i = 8 := by omega
        subst this
        rw [C39_16 hb, if_neg (by decide), hSS, hB.2.1, e_n_sub]
      | succ k ih =>
        intro i hi
        rw [C39_16 hb, if_pos (by rw [show (e_n 8) = e_n ((8 : Nat) : Nat) from rfl, e_n_ltN (by omega) (by omega)]; omega), v32h hb wb hB, e_n_succ]
        exact ih (i + 1) (by omega)
    have l2 : ∀ k b, k ≤ bPl B → b < bPl B → e_L (d + 8) 39 55 [.ref (bd z.2.1.1 + 1), .int (e_n (pl : Nat)), .int (e_n (t : Nat)), .int (seaB B ^^^ e_n (-1)), .int SS, .int (e_n (b : Nat)), .int (e_n ((k : Int) - 1))] [] (mk I z) = some (.inl (some (.int (e_n (reL B SS k b : Nat)))), mk I z) := by
      intro k
      induction k with
      | zero =>
        intro b hk hbb
        rw [C39_55 hb, if_pos (by decide)]; rfl
      | succ k ih =>
        intro b hk hbb
        have e1 : (((k + 1 : Nat) : Int) - 1) = ((k : Nat) : Int) := by omega
        rw [C39_55 hb, e1, if_neg (by rw [show (0 : Int32) = e_n ((0 : Nat) : Nat) from rfl, e_n_ltN (by omega) (by omega)]; omega), dg b hbb, dg k (by omega), e_n_add, show ((k : Nat) : Int) + -1 = (k : Int) - 1 by omega]
        have hv : (if SS &&& e_shl (e_n 1) (e_n (k : Nat)) = 0 then e_n (b : Nat) else if bR B 1 b < bR B 1 k then e_n (b : Nat) else e_n (k : Nat)) = e_n ((if bt SS k = true then (if bR B 1 b < bR B 1 k then b else k) else b : Nat) : Nat) := by
          by_cases hc : bt SS k = true
          · rw [if_neg (fun h => by rw [and_bit _ (by omega), hc] at h; cases h), if_pos hc]
            split <;> rfl
          · rw [if_pos (by rw [and_bit _ (by omega)]; simpa using hc), if_neg hc]
        rw [hv]
        refine ih _ (by omega) ?_
        split
        · split
          · exact hbb
          · omega
        · exact hbb
    have e39 : e_E (d + 9) 39 [.ref (bd z.2.1.1 + 1), .int (e_n (pl : Nat)), .int (e_n (t : Nat))] (mk I z) = some (.inl (some (.int (e_n (reL B SS (bPl B) pl : Nat)))), mk I z) := by
      refine e_E_ret (d := d + 8) ((C39_0 hb).trans ?_)
      rw [v29h hb wb hB, hh]
      exact (l1 8 0 (by decide)).trans (l2 (bPl B) pl (Nat.le_refl _) hpl)
    rw [C153_0, hpc, if_neg hm, hwh, hda, e39, e_rI_i, C153_39]
  · intro J z2 HJ hq
    have rb := RB_0 (v := e_n 0) (rel_rb HJ)
    have hK : e_u J 489 0 (e_n 0) 515 = I 515 := by rw [K515 (by decide), hq 515 (by decide)]
    have hplc : e_u J 489 0 (e_n 0) 489 2 = e_n (bPl B : Nat) := rb.2.1
    have hwyc : e_u J 489 0 (e_n 0) 489 3 = e_n (bWy B : Nat) := rb.2.2.1
    have hways := rb.2.2.2.2.2.2.2.2.1
    have hdg := rb.2.2.2.2.2.2.2.1
    have h69 : e_u J 489 0 (e_n 0) 489 69 = e_n (-1) := by rw [e_u_ne (by decide), hq 489 (by decide)]; exact H.2.2.2.2.1
    have i22 : (e_n 22 + e_n (p : Nat)).toNatClampNeg = 22 + p := ix (a := 22) (by omega)
    have g22 : InR (e_n 22 + e_n (p : Nat)) 34 := ixI (a := 22) (by omega) (by decide)
    have hG0 : e_u J 489 0 (e_n 0) 489 0 = e_n 0 := e_u_same
    have hGJ : RfE J (e_u J 489 0 (e_n 0)) := RfE_0
    generalize hGG : e_u J 489 0 (e_n 0) = G at rb hK hplc hwyc hways hdg h69 hG0 hGJ
    have l0 : ∀ k i (K : Nat → Nat → Int32), i + k = 8 → (∀ j, j < i → K 531 j = tf (bt h0 j = true)) → (∀ r, r ≠ 531 → K r = G r) → ∃ K', e_L (d + 9) 291 17 [.ref 489, .int (e_n (p : Nat)), .int (e_n (i : Nat)), .null] [] (mk K z2) = e_L (d + 9) 291 55 [.ref 489, .int (e_n (p : Nat)), .int (e_n 0), .null] [] (mk K' z2) ∧ BX K' 531 h0 8 ∧ ∀ r, r ≠ 531 → K' r = G r := by
      intro k
      induction k with
      | zero =>
        intro i K hi hKf hr
        have : i = 8 := by omega
        subst this
        exact ⟨K, by rw [C291_17 (fun h => absurd h (by decide)) (fun h => absurd h (by decide)) (fun h => absurd h (by decide)), if_neg (by decide)], hKf, hr⟩
      | succ k ih =>
        intro i K hi hKf hr
        obtain ⟨K', e1, e2, e3⟩ := ih (i + 1) (e_u K 531 i (tf (bt h0 i = true))) (by omega) (fun j hj => by
          rw [e_u_at]
          by_cases hji : j = i
          · rw [if_pos hji, hji]
          · rw [if_neg hji]; exact hKf j (by omega)) (fun r h1 => by rw [e_u_na h1]; exact hr r h1)
        refine ⟨K', ?_, e2, e3⟩
        have gi : InR (e_n (i : Nat)) 8 := InR_n (by omega) (by omega) (by omega)
        have hv : tf (e_n (i : Nat) = e_n (pl : Nat)) = tf (bt h0 i = true) := by
          have hbi := hb0 i
          unfold tf
          by_cases hip : i = pl
          · rw [if_pos (by rw [hip]), if_pos (hbi.mpr hip)]
          · rw [if_neg (fun q => hip (by rw [e_n_inj (by omega) (by omega) (by omega) (by omega)] at q; omega)), if_neg (fun h => hip (hbi.mp h))]
        rw [C291_17 (fun _ => g22) (fun _ _ => gi) (fun _ _ => gi), if_pos (by rw [show (e_n 8) = e_n ((8 : Nat) : Nat) from rfl, e_n_ltN (by omega) (by omega)]; omega), i22, hr 515 (by decide), hK, hat, tf_and1, hv, e_n_nat' (by omega), e_n_succ]
        exact e1
    -- S: what can be come to, zz rounds and w ways on
    have lw : ∀ (zz : Nat), ∀ k w (K : Nat → Nat → Int32) (S : Int32), w + k = bWy B → BX K 531 S (bPl B) → (∀ i, bt S i = true → ∃ m, clo (bPl B) (rfE B t) (fun j => j = pl) m i) → (∀ i, clo (bPl B) (rfE B t) (fun j => j = pl) zz i → bt S i = true) → (∀ i a v, v < w → clo (bPl B) (rfE B t) (fun j => j = pl) zz a → ¬ bR B 1 a = e_n (-1) → pas B (e_n (t : Nat)) (e_n (-1)) v → ((wA B v = a ∧ i = wZ B v) ∨ (wZ B v = a ∧ i = wA B v)) → bt S i = true) → (∀ r, r ≠ 531 → K r = G r) → ∃ K' S', e_L (d + 9) 291 65 [.ref 489, .int (e_n (p : Nat)), .int (e_n (zz : Nat)), .int (e_n (w : Nat))] [] (mk K z2) = e_L (d + 9) 291 55 [.ref 489, .int (e_n (p : Nat)), .int (e_n ((zz + 1 : Nat) : Nat)), .int (e_n (bWy B : Nat))] [] (mk K' z2) ∧ BX K' 531 S' (bPl B) ∧ (∀ i, bt S' i = true → ∃ m, clo (bPl B) (rfE B t) (fun j => j = pl) m i) ∧ (∀ i, clo (bPl B) (rfE B t) (fun j => j = pl) (zz + 1) i → bt S' i = true) ∧ ∀ r, r ≠ 531 → K' r = G r := by
      intro zz k
      induction k with
      | zero =>
        intro w K S hw hX h1 h2 h3 hr
        have : w = bWy B := by omega
        subst this
        refine ⟨K, S, ?_, hX, h1, ?_, hr⟩
        · rw [C291_65, hr 489 (by decide), hwyc, if_neg (by rw [e_n_ltN (by omega) (by omega)]; omega), e_n_succ]
        · rintro i (h | ⟨a, ha, hc, hs, v, hv, hpp, he⟩)
          · exact h2 i h
          · exact h3 i a v hv hc hs hpp he
      | succ k ih =>
        intro w K S hw hX h1 h2 h3 hr
        have hwb : w < bWy B := by omega
        obtain ⟨wa1, wa2⟩ := wA_n wb hwb
        obtain ⟨wz1, wz2⟩ := wZ_n wb hwb
        have hne := wne wb hwb
        have w491 : K 491 w = e_n (wA B w : Nat) := by rw [hr 491 (by decide), (hways w hwb).1, wa2]
        have w492 : K 492 w = e_n (wZ B w : Nat) := by rw [hr 492 (by decide), (hways w hwb).2.1, wz2]
        have w493 : K 493 w = bR B 4 w := by rw [hr 493 (by decide), (hways w hwb).2.2]
        have gw : InR (e_n (w : Nat)) 12 := InR_n (by omega) (by omega) (by omega)
        have d490 : ∀ a, a < bPl B → K 490 a = bR B 1 a := fun a ha => by rw [hr 490 (by decide)]; exact hdg a ha
        have pre : e_L (d + 9) 291 65 [.ref 489, .int (e_n (p : Nat)), .int (e_n (zz : Nat)), .int (e_n (w : Nat))] [] (mk K z2) = e_L (d + 9) 291 84 [.ref 489, .int (e_n (p : Nat)), .int (e_n (zz : Nat)), .int (e_n (w : Nat))] [.int (tf (e_n (w : Nat) = e_n (-1) ∨ e_n (t : Nat) < bR B 4 w))] (mk K z2) := by
          rw [C291_65, hr 489 (by decide), hwyc, if_pos (by rw [e_n_ltN (by omega) (by omega)]; omega), c253 (fun _ => gw), e_rI_i, hr 489 (by decide), h69, e_n_nat' (show w < 2147483648 by omega), w493, hr 515 (by decide), hK, hd]
        rw [pre, C291_84 (fun _ => gw) (fun _ => by rw [e_n_nat' (by omega), w492]; exact InR_n (by omega) (by omega) (by omega)) (fun _ _ => by rw [e_n_nat' (by omega), w491]; exact InR_n (by omega) (by omega) (by omega)) (fun _ _ => by rw [e_n_nat' (by omega), w491]; exact InR_n (by omega) (by omega) (by omega)), e_n_nat' (show w < 2147483648 by omega), w491, w492, e_n_nat' (show wA B w < 2147483648 by omega), e_n_nat' (show wZ B w < 2147483648 by omega), d490 _ wa1, d490 _ wz1, hX _ wa1, hX _ wz1, e_u_ne hne, hX _ wa1, e_n_succ]
        by_cases hp' : pas B (e_n (t : Nat)) (e_n (-1)) w
        · have htf : ¬ tf (e_n (w : Nat) = e_n (-1) ∨ e_n (t : Nat) < bR B 4 w) = 0 := by rw [tf_eq0]; exact fun q => q hp'
          rw [if_neg htf]
          -- the new bits
          generalize hz1 : (bt S (wZ B w) || (bt S (wA B w) && !decide (bR B 1 (wA B w) = e_n (-1)))) = nz
          generalize hz2 : (bt S (wA B w) || (nz && !decide (bR B 1 (wZ B w) = e_n (-1)))) = na
          have e1 : tf (¬ tf (bt S (wZ B w) = true) = 0 ∨ ¬ tf (bt S (wA B w) = true) = 0 ∧ ¬ bR B 1 (wA B w) = e_n (-1)) &&& 1 = tf (nz = true) := by
            rw [tf_and1, ← hz1]
            unfold tf
            by_cases q1 : bt S (wZ B w) = true <;> by_cases q2 : bt S (wA B w) = true <;> by_cases q3 : bR B 1 (wA B w) = e_n (-1) <;> simp [q1, q2, q3, en_10, en_00]
          have e2 : tf (¬ tf (bt S (wA B w) = true) = 0 ∨ ¬ tf (nz = true) = 0 ∧ ¬ bR B 1 (wZ B w) = e_n (-1)) &&& 1 = tf (na = true) := by
            rw [tf_and1, ← hz2]
            unfold tf
            by_cases q1 : nz = true <;> by_cases q2 : bt S (wA B w) = true <;> by_cases q3 : bR B 1 (wZ B w) = e_n (-1) <;> simp [q1, q2, q3, en_10, en_00]
          rw [e1, e2]
          generalize hS' : S ||| (if nz = true then e_shl (e_n 1) (e_n (wZ B w : Nat)) else e_n 0) ||| (if na = true then e_shl (e_n 1) (e_n (wA B w : Nat)) else e_n 0) = S'
          have bS' : ∀ i, bt S' i = true ↔ (bt S i = true ∨ (i = wZ B w ∧ nz = true) ∨ (i = wA B w ∧ na = true)) := by
            intro i
            rw [← hS', bt_or, bt_or, Bool.or_eq_true, Bool.or_eq_true, or_assoc]
            have x1 : (bt (if nz = true then e_shl (e_n 1) (e_n (wZ B w : Nat)) else e_n 0) i = true) ↔ (i = wZ B w ∧ nz = true) := by
              by_cases q : nz = true
              · rw [if_pos q, bt_bit (by omega)]; simp [q]
              · rw [if_neg q, bt_0]; simp [q]
            have x2 : (bt (if na = true then e_shl (e_n 1) (e_n (wA B w : Nat)) else e_n 0) i = true) ↔ (i = wA B w ∧ na = true) := by
              by_cases q : na = true
              · rw [if_pos q, bt_bit (by omega)]; simp [q]
              · rw [if_neg q, bt_0]; simp [q]
            rw [x1, x2]
          have hnz : nz = true ↔ (bt S (wZ B w) = true ∨ (bt S (wA B w) = true ∧ ¬ bR B 1 (wA B w) = e_n (-1))) := by rw [← hz1]; simp
          have hna : na = true ↔ (bt S (wA B w) = true ∨ (nz = true ∧ ¬ bR B 1 (wZ B w) = e_n (-1))) := by rw [← hz2]; simp
          have sZ : nz = true → ∃ m, clo (bPl B) (rfE B t) (fun j => j = pl) m (wZ B w) := by
            intro hn
            rcases hnz.mp hn with q | ⟨q, s⟩
            · exact h1 _ q
            · obtain ⟨m, hm'⟩ := h1 _ q
              exact ⟨m + 1, Or.inr ⟨wA B w, wa1, hm', s, w, hwb, hp', Or.inl ⟨rfl, rfl⟩⟩⟩
          have sA : na = true → ∃ m, clo (bPl B) (rfE B t) (fun j => j = pl) m (wA B w) := by
            intro hn
            rcases hna.mp hn with q | ⟨q, s⟩
            · exact h1 _ q
            · obtain ⟨m, hm'⟩ := sZ q
              exact ⟨m + 1, Or.inr ⟨wZ B w, wz1, hm', s, w, hwb, hp', Or.inr ⟨rfl, rfl⟩⟩⟩
          have hX' : BX (e_u (e_u K 531 (wZ B w) (tf (nz = true))) 531 (wA B w) (tf (na = true))) 531 S' (bPl B) := by
            intro i hi
            rw [e_u_at, e_u_at]
            have hbi := bS' i
            unfold tf
            by_cases q1 : i = wA B w
            · rw [if_pos q1]
              by_cases q : na = true
              · rw [if_pos q, if_pos (hbi.mpr (Or.inr (Or.inr ⟨q1, q⟩)))]
              · rw [if_neg q, if_neg (fun h => by
                  rcases hbi.mp h with h | ⟨h, -⟩ | ⟨-, h⟩
                  · rw [q1] at h; exact q (hna.mpr (Or.inl h))
                  · exact hne (q1.symm.trans h)
                  · exact q h)]
            · rw [if_neg q1]
              by_cases q2 : i = wZ B w
              · rw [if_pos q2]
                by_cases q : nz = true
                · rw [if_pos q, if_pos (hbi.mpr (Or.inr (Or.inl ⟨q2, q⟩)))]
                · rw [if_neg q, if_neg (fun h => by
                    rcases hbi.mp h with h | ⟨-, h⟩ | ⟨h, -⟩
                    · rw [q2] at h; exact q (hnz.mpr (Or.inl h))
                    · exact q h
                    · exact q1 h)]
              · rw [if_neg q2, hX i hi]
                unfold tf
                by_cases q : bt S i = true
                · rw [if_pos q, if_pos (hbi.mpr (Or.inl q))]
                · rw [if_neg q, if_neg (fun h => by
                    rcases hbi.mp h with h | ⟨h, -⟩ | ⟨h, -⟩
                    · exact q h
                    · exact q2 h
                    · exact q1 h)]
          exact ih (w + 1) _ S' (by omega) hX' (fun i h => by
            rcases (bS' i).mp h with h | ⟨h, q⟩ | ⟨h, q⟩
            · exact h1 i h
            · rw [h]; exact sZ q
            · rw [h]; exact sA q) (fun i h => (bS' i).mpr (Or.inl (h2 i h))) (fun i a v hv hc hs hpp he => by
            by_cases hvw : v = w
            · subst hvw
              rcases he with ⟨he1, he2⟩ | ⟨he1, he2⟩
              · refine (bS' i).mpr (Or.inr (Or.inl ⟨he2, hnz.mpr (Or.inr ⟨by rw [he1]; exact h2 a hc, by rw [he1]; exact hs⟩)⟩))
              · refine (bS' i).mpr (Or.inr (Or.inr ⟨he2, hna.mpr (Or.inr ⟨hnz.mpr (Or.inl (by rw [he1]; exact h2 a hc)), by rw [he1]; exact hs⟩)⟩))
            · exact (bS' i).mpr (Or.inl (h3 i a v (by omega) hc hs hpp he))) (fun r h => by rw [e_u_na h, e_u_na h]; exact hr r h)
        · have htf : tf (e_n (w : Nat) = e_n (-1) ∨ e_n (t : Nat) < bR B 4 w) = 0 := by rw [tf_eq0]; exact hp'
          rw [if_pos htf]
          exact ih (w + 1) K S (by omega) hX h1 h2 (fun i a v hv hc hs hpp he => by
            by_cases hvw : v = w
            · rw [hvw] at hpp; exact absurd hpp hp'
            · exact h3 i a v (by omega) hc hs hpp he) hr
    -- the best of them
    have lb : ∀ (K : Nat → Nat → Int32), BX K 531 SS (bPl B) → (∀ r, r ≠ 531 → K r = G r) → ∀ k b, k ≤ bPl B → b < bPl B → e_L (d + 9) 291 237 [.ref 489, .int (e_n (p : Nat)), .int (e_n (b : Nat)), .int (e_n ((k : Int) - 1))] [] (mk K z2) = some (.inl (some (.int (e_n (reL B SS k b : Nat)))), mk K z2) := by
      intro K hX hr k
      induction k with
      | zero =>
        intro b hk hbb
        rw [C291_237 (fun h => absurd (by decide) h) (fun h => absurd (by decide) h), if_pos (by decide)]; rfl
      | succ k ih =>
        intro b hk hbb
        have e1 : (((k + 1 : Nat) : Int) - 1) = ((k : Nat) : Int) := by omega
        rw [e1, C291_237 (fun _ => InR_n (by omega) (by omega) (by omega)) (fun _ _ => InR_n (by omega) (by omega) (by omega)), if_neg (by rw [show (0 : Int32) = e_n ((0 : Nat) : Nat) from rfl, e_n_ltN (by omega) (by omega)]; omega), e_n_nat' (by omega), e_n_nat' (by omega), hX k (by omega), hr 490 (by decide), hdg b hbb, hdg k (by omega), e_n_add, show ((k : Nat) : Int) + -1 = (k : Int) - 1 by omega]
        have hv : (if tf (bt SS k = true) = 0 then e_n (b : Nat) else if bR B 1 b < bR B 1 k then e_n (b : Nat) else e_n (k : Nat)) = e_n ((if bt SS k = true then (if bR B 1 b < bR B 1 k then b else k) else b : Nat) : Nat) := by
          by_cases hc : bt SS k = true
          · rw [if_neg (by rw [tf_eq0]; exact fun q => q hc), if_pos hc]
            split <;> rfl
          · rw [if_pos (by rw [tf_eq0]; exact hc), if_neg hc]
        rw [hv]
        refine ih _ (by omega) ?_
        split
        · split
          · exact hbb
          · omega
        · exact hbb
    have lz : ∀ k zz (K : Nat → Nat → Int32) (S : Int32) (u : Value), zz + k = bPl B → BX K 531 S (bPl B) → (∀ i, bt S i = true → ∃ m, clo (bPl B) (rfE B t) (fun j => j = pl) m i) → (∀ i, clo (bPl B) (rfE B t) (fun j => j = pl) zz i → bt S i = true) → (∀ r, r ≠ 531 → K r = G r) → ∃ K', e_L (d + 9) 291 55 [.ref 489, .int (e_n (p : Nat)), .int (e_n (zz : Nat)), u] [] (mk K z2) = some (.inl (some (.int (e_n (reL B SS (bPl B) pl : Nat)))), mk K' z2) ∧ ∀ r, r ≠ 531 → K' r = G r := by
      intro k
      induction k with
      | zero =>
        intro zz K S u hz hX h1 h2 hr
        have : zz = bPl B := by omega
        subst this
        refine ⟨K, ?_, hr⟩
        have hX2 : BX K 531 SS (bPl B) := by
          intro i hi
          rw [hX i hi]
          have hiff : bt S i = true ↔ bt SS i = true := by
            rw [← hSS, hclo]
            constructor
            · intro h
              obtain ⟨m, hm'⟩ := h1 i h
              exact clo_n hs0 hE m i hm' (by omega)
            · intro h
              exact h2 i (clo_n hs0 hE 8 i h (by omega))
          unfold tf
          by_cases q : bt S i = true
          · rw [if_pos q, if_pos (hiff.mp q)]
          · rw [if_neg q, if_neg (fun h => q (hiff.mpr h))]
        rw [C291_55 (fun _ => g22), hr 489 (by decide), hplc, if_neg (by rw [e_n_ltN (by omega) (by omega)]; omega), i22, hr 515 (by decide), hK, hat, e_n_sub]
        exact lb K hX2 hr (bPl B) pl (Nat.le_refl _) hpl
      | succ k ih =>
        intro zz K S u hz hX h1 h2 hr
        obtain ⟨K1, S1, e1, e2, e3, e4, e5⟩ := lw zz (bWy B) 0 K S (by omega) hX h1 h2 (fun i a v hv => absurd hv (Nat.not_lt_zero v)) hr
        obtain ⟨K2, f1, f2⟩ := ih (zz + 1) K1 S1 (.int (e_n (bWy B : Nat))) (by omega) e2 e3 e4 e5
        refine ⟨K2, ?_, f2⟩
        rw [C291_55 (fun h => absurd (show e_n (zz : Nat) < K 489 2 by rw [hr 489 (by decide), hplc, e_n_ltN (by omega) (by omega)]; omega) h), hr 489 (by decide), hplc, if_pos (by rw [e_n_ltN (by omega) (by omega)]; omega)]
        exact e1.trans f1
    obtain ⟨K1, e1, e2, e3⟩ := l0 8 0 G (by decide) (fun j hj => absurd hj (Nat.not_lt_zero j)) (fun _ _ => rfl)
    obtain ⟨K2, f1, f2⟩ := lz (bPl B) 0 K1 h0 .null (by omega) (fun i hi => e2 i (by omega)) (fun i hi => ⟨0, (hb0 i).mp hi⟩) (fun i hi => (hb0 i).mpr hi) e3
    refine ⟨K2, e_n (reL B SS (bPl B) pl : Nat), e_E_ret (d := d + 9) ?_, RfE_tr hGJ ⟨fun r _ h2 => f2 r (fun q => h2 (by unfold ScrR; omega)), fun j _ => by rw [f2 489 (by decide)]⟩, by rw [f2 489 (by decide)]; exact hG0, rfl⟩
    show e_L (d + 9) 291 0 [.ref 489, .int (e_n (p : Nat)), .null, .null] [] (mk J z2) = _
    rw [C291_0, hGG, c245y rb hG0 hm, e_rI_i, C291_10, if_neg (by decide)]
    exact e1.trans f1
end S99f
