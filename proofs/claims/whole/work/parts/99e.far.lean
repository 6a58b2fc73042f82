/-! far -/
section S99e
def wyE (B : e_B) (p i : Nat) : Prop := ∃ w, w < bWy B ∧ ((wA B w = p ∧ i = wZ B w) ∨ (wZ B w = p ∧ i = wA B w))
def far1 (B : e_B) (q : Int32) : Int32 := q ||| byS B q (e_n (-1)) (e_n (-1))
theorem pas_m1 {B : e_B} {w : Nat} (wb : WB B) (hw : w < bWy B) : pas B (e_n (-1)) (e_n (-1)) w := by
  obtain ⟨g, hg, h⟩ := wg_n wb hw
  right
  rw [h, e_n_lt (by decide) (by decide) (by omega) (by omega)]; omega
theorem far1_g {B : e_B} (wb : WB B) (q : Int32) (i : Nat) : bt (far1 B q) i = true ↔ (bt q i = true ∨ ∃ p, p < bPl B ∧ bt q p = true ∧ wyE B p i) := by
  unfold far1
  rw [bt_or, Bool.or_eq_true, bt_byS wb]
  constructor
  · rintro (h | ⟨w, hw, -, ⟨h1, h2⟩ | ⟨h1, h2⟩⟩)
    · exact Or.inl h
    · exact Or.inr ⟨wA B w, (wA_n wb hw).1, h1, w, hw, Or.inl ⟨rfl, h2⟩⟩
    · exact Or.inr ⟨wZ B w, (wZ_n wb hw).1, h1, w, hw, Or.inr ⟨rfl, h2⟩⟩
  · rintro (h | ⟨p, hp, h1, w, hw, ⟨h2, h3⟩ | ⟨h2, h3⟩⟩)
    · exact Or.inl h
    · exact Or.inr ⟨w, hw, pas_m1 wb hw, Or.inl ⟨by rw [h2]; exact h1, h3⟩⟩
    · exact Or.inr ⟨w, hw, pas_m1 wb hw, Or.inr ⟨by rw [h2]; exact h1, h3⟩⟩
/-- what the reference's numbers of steps are, z rounds on; v ways of the next -/
def DsI (B : e_B) (a z : Nat) (s : Nat → Nat) : Prop := (∀ b, b < bPl B → s b ≤ 99 ∧ (s b < 99 → clo (bPl B) (wyE B) (fun j => j = a) (s b) b)) ∧ (∀ b k, k ≤ z → b < bPl B → clo (bPl B) (wyE B) (fun j => j = a) k b → s b ≤ k)
theorem F152 {d : Nat} {c1 : Int32} {I : Nat → Nat → Int32} {z : e_Z} {B : e_B} (H : Rel I z B) {x x2 : Int32} : Face d c1 I z 152 290 [.int x, .int x2] := by
  have wb := rel_wb H
  have wb2 : bPl B ≤ 8 := wb.2.1
  have wb3 : bWy B ≤ 12 := wb.2.2.1
  have hb := B2_bd z.2.1.1
  have hpc := (rel_bc H).2.1
  by_cases hm : (x < 0 ∨ ¬ x < e_n (bPl B : Nat)) ∨ (x2 < 0 ∨ ¬ x2 < e_n (bPl B : Nat))
  · refine throw_p H ?_ ?_
    · refine (e_E_11 (d := d + 9) (y := 152) rfl).trans ?_
      show e_L (d + 9) 152 0 [.ref 1, .int x, .int x2, .null, .null] [] (mk I z) = _
      rw [C152_0, hpc, if_pos hm]; rfl
    · intro J z2 HJ
      refine ⟨e_n 0, e_E_ret (d := d + 9) ?_⟩
      show e_L (d + 9) 290 0 [.ref 489, .int x, .int x2, .null, .null] [] (mk J z2) = _
      by_cases hm1 : x < 0 ∨ ¬ x < e_n (bPl B : Nat)
      · rw [C290_0, c244n (RB_0 (rel_rb HJ)) K0 hm1, e_rI_i, C290_10, if_pos (by decide)]
      · rw [C290_0, c244y (RB_0 (rel_rb HJ)) K0 hm1, e_rI_i, C290_10, if_neg (by decide), c244n (RB_0 (rel_rb HJ)) K0 (hm.resolve_left hm1), e_rI_i, C290_18, if_pos (by decide)]
  have hm1 : ¬ (x < 0 ∨ ¬ x < e_n (bPl B : Nat)) := fun h => hm (Or.inl h)
  have hm2 : ¬ (x2 < 0 ∨ ¬ x2 < e_n (bPl B : Nat)) := fun h => hm (Or.inr h)
  obtain ⟨a, ha, rfl⟩ := in_n (by omega) hm1
  obtain ⟨q, hqq, rfl⟩ := in_n (by omega) hm2
  generalize hh : e_shl (e_n 1) (e_n (a : Nat)) = h0
  have hb0 : ∀ i, bt h0 i = true ↔ i = a := fun i => by rw [← hh, bt_bit (by omega)]; simp
  have hs0 : ∀ i, i = a → i < bPl B := fun i hi => by omega
  have hE : ∀ p i, wyE B p i → i < bPl B := by
    rintro p i ⟨w, hw, ⟨-, h⟩ | ⟨-, h⟩⟩
    · rw [h]; exact (wZ_n wb hw).1
    · rw [h]; exact (wA_n wb hw).1
  have hfun : (fun j => bt h0 j = true) = (fun j => j = a) := funext fun j => propext (hb0 j)
  have hclo : ∀ k i, bt (rK (far1 B) h0 k) i = true ↔ clo (bPl B) (wyE B) (fun j => j = a) k i := fun k i => by rw [rK_clo (far1_g wb), hfun]
  have hmore : ∀ r, fi (fun k => bt (rK (far1 B) h0 k) q) (bPl B + r) 0 = fi (fun k => bt (rK (far1 B) h0 k) q) (bPl B) 0 := fun r => fi_more (bPl B) 0 r (fun j _ hj => ⟨bPl B - 1, Nat.zero_le _, by omega, (hclo (bPl B - 1) q).mpr (clo_end hs0 hE j q ((hclo j q).mp hj))⟩)
  refine face_rd H (r := .inl (fi (fun k => bt (rK (far1 B) h0 k) q) (bPl B) 0)) (I1 := I) (zs_rf z) rfl (e_E_ret (d := d + 9) ?_) (fun _ _ => rfl) ?_
  · show e_L (d + 9) 152 0 [.ref 1, .int (e_n (a : Nat)), .int (e_n (q : Nat)), .null, .null] [] (mk I z) = _
    rw [C152_0, hpc, if_neg hm, hh]
    have loop : ∀ k i, i + k = 8 → e_L (d + 9) 152 18 [.ref 1, .int (e_n (a : Nat)), .int (e_n (q : Nat)), .int (rK (far1 B) h0 i), .int (e_n (i : Nat))] [] (mk I z) = some (.inl (some (.int (fi (fun k => bt (rK (far1 B) h0 k) q) k i))), mk I z) := by
      intro k
      induction k with
      | zero =>
        intro i hi
        rw [C152_18, if_neg (by rw [show (e_n 8) = e_n ((8 : Nat) : Nat) from rfl, e_n_ltN (by omega) (by omega)]; omega)]; rfl
      | succ k ih =>
        intro i hi
        rw [C152_18, if_pos (by rw [show (e_n 8) = e_n ((8 : Nat) : Nat) from rfl, e_n_ltN (by omega) (by omega)]; omega)]
        unfold fi
        by_cases hc : bt (rK (far1 B) h0 i) q = true
        · rw [if_neg (fun h => by rw [and_bit _ (by omega), hc] at h; cases h), if_pos hc]
        · rw [if_pos (by rw [and_bit _ (by omega)]; simpa using hc), if_neg hc, v32h hb wb (rel_bc H), e_n_succ]
          exact ih (i + 1) (by omega)
    have := loop 8 0 (by decide)
    have e8 := hmore (8 - bPl B)
    rw [show bPl B + (8 - bPl B) = 8 by omega] at e8
    rw [e8] at this
    exact this
  · intro J z2 HJ hq
    have rb := RB_0 (v := e_n 0) (rel_rb HJ)
    have hplc : e_u J 489 0 (e_n 0) 489 2 = e_n (bPl B : Nat) := rb.2.1
    have hwyc : e_u J 489 0 (e_n 0) 489 3 = e_n (bWy B : Nat) := rb.2.2.1
    have hways := rb.2.2.2.2.2.2.2.2.1
    generalize hG : e_u J 489 0 (e_n 0) = G at rb hplc hwyc hways
    have l0 : ∀ k i (K : Nat → Nat → Int32), i + k = 8 → (∀ j, j < i → K 534 j = e_n ((if j = a then 0 else 99 : Nat) : Nat)) → (∀ r, r ≠ 534 → K r = G r) → ∃ K', e_L (d + 9) 290 25 [.ref 489, .int (e_n (a : Nat)), .int (e_n (q : Nat)), .int (e_n (i : Nat)), .null] [] (mk K z2) = e_L (d + 9) 290 56 [.ref 489, .int (e_n (a : Nat)), .int (e_n (q : Nat)), .int (e_n 0), .null] [] (mk K' z2) ∧ (∀ j, j < 8 → K' 534 j = e_n ((if j = a then 0 else 99 : Nat) : Nat)) ∧ ∀ r, r ≠ 534 → K' r = G r := by
      intro k
      induction k with
      | zero =>
        intro i K hi hK hr
        have : i = 8 := by omega
        subst this
        exact ⟨K, by rw [C290_25 (fun h => absurd h (by decide)) (fun h => absurd h (by decide)), if_neg (by decide)], hK, hr⟩
      | succ k ih =>
        intro i K hi hK hr
        have hv : (if e_n (i : Nat) = e_n (a : Nat) then e_n 0 else e_n 99) = e_n ((if i = a then 0 else 99 : Nat) : Nat) := by
          by_cases hia : i = a
          · rw [if_pos (by rw [hia]), if_pos hia]; rfl
          · rw [if_neg (fun q => hia (by rw [e_n_inj (by omega) (by omega) (by omega) (by omega)] at q; omega)), if_neg hia]; rfl
        obtain ⟨K', e1, e2, e3⟩ := ih (i + 1) (e_u K 534 i (e_n ((if i = a then 0 else 99 : Nat) : Nat))) (by omega) (fun j hj => by
          rw [e_u_at]
          by_cases hji : j = i
          · rw [if_pos hji, hji]
          · rw [if_neg hji]; exact hK j (by omega)) (fun r h1 => by rw [e_u_na h1]; exact hr r h1)
        refine ⟨K', ?_, e2, e3⟩
        have gi : InR (e_n (i : Nat)) 8 := InR_n (by omega) (by omega) (by omega)
        rw [C290_25 (fun _ _ => gi) (fun _ _ => gi), if_pos (by rw [show (e_n 8) = e_n ((8 : Nat) : Nat) from rfl, e_n_ltN (by omega) (by omega)]; omega), hv, e_n_nat' (by omega), e_n_succ]
        exact e1
    have les : ∀ u v : Nat, u ≤ 99 → v ≤ 99 → (if e_n (u : Nat) < e_n (v : Nat) + e_n 1 then e_n (u : Nat) else e_n (v : Nat) + e_n 1) = e_n ((min u (v + 1) : Nat) : Nat) := by
      intro u v hu hv
      rw [e_n_succ]
      by_cases h : u < v + 1
      · rw [if_pos (by rw [e_n_ltN (by omega) (by omega)]; exact h), Nat.min_eq_left (by omega)]
      · rw [if_neg (by rw [e_n_ltN (by omega) (by omega)]; exact h), Nat.min_eq_right (by omega)]
    -- a way
    have lw : ∀ (zz : Nat), ∀ k w (K : Nat → Nat → Int32) (s : Nat → Nat), w + k = bWy B → (∀ j, j < bPl B → K 534 j = e_n (s j : Nat)) → DsI B a zz s → (∀ b k p v, v < w → k ≤ zz → p < bPl B → clo (bPl B) (wyE B) (fun j => j = a) k p → ((wA B v = p ∧ b = wZ B v) ∨ (wZ B v = p ∧ b = wA B v)) → s b ≤ k + 1) → (∀ r, r ≠ 534 → K r = G r) → ∃ K' s', e_L (d + 9) 290 67 [.ref 489, .int (e_n (a : Nat)), .int (e_n (q : Nat)), .int (e_n (zz : Nat)), .int (e_n (w : Nat))] [] (mk K z2) = e_L (d + 9) 290 56 [.ref 489, .int (e_n (a : Nat)), .int (e_n (q : Nat)), .int (e_n ((zz + 1 : Nat) : Nat)), .int (e_n (bWy B : Nat))] [] (mk K' z2) ∧ (∀ j, j < bPl B → K' 534 j = e_n (s' j : Nat)) ∧ DsI B a (zz + 1) s' ∧ ∀ r, r ≠ 534 → K' r = G r := by
      intro zz k
      induction k with
      | zero =>
        intro w K s hw hK hD hn hr
        have : w = bWy B := by omega
        subst this
        refine ⟨K, s, ?_, hK, ⟨hD.1, ?_⟩, hr⟩
        · rw [C290_67 (fun h => absurd h (by rw [hr 489 (by decide), hwyc, e_n_ltN (by omega) (by omega)]; omega)) (fun h => absurd h (by rw [hr 489 (by decide), hwyc, e_n_ltN (by omega) (by omega)]; omega)) (fun h => absurd h (by rw [hr 489 (by decide), hwyc, e_n_ltN (by omega) (by omega)]; omega)), hr 489 (by decide), hwyc, if_neg (by rw [e_n_ltN (by omega) (by omega)]; omega), e_n_succ]
        · intro b k hk hb hc
          by_cases hkz : k ≤ zz
          · exact hD.2 b k hkz hb hc
          · have hke : k = zz + 1 := by omega
            subst hke
            rcases hc with hc | ⟨p, hp, hc, v, hv, he⟩
            · exact Nat.le_trans (hD.2 b zz (Nat.le_refl _) hb hc) (by omega)
            · exact hn b zz p v hv (Nat.le_refl _) hp hc he
      | succ k ih =>
        intro w K s hw hK hD hn hr
        have hwb : w < bWy B := by omega
        obtain ⟨wa1, wa2⟩ := wA_n wb hwb
        obtain ⟨wz1, wz2⟩ := wZ_n wb hwb
        have hne := wne wb hwb
        have w491 : K 491 w = e_n (wA B w : Nat) := by rw [hr 491 (by decide), (hways w hwb).1, wa2]
        have w492 : K 492 w = e_n (wZ B w : Nat) := by rw [hr 492 (by decide), (hways w hwb).2.1, wz2]
        have hsA := (hD.1 _ wa1).1
        have hsZ := (hD.1 _ wz1).1
        have hm1 : min (s (wZ B w)) (s (wA B w) + 1) ≤ 99 := Nat.le_trans (Nat.min_le_left _ _) hsZ
        -- the two ends anew
        generalize hs' : (fun j => if j = wA B w then min (s (wA B w)) (min (s (wZ B w)) (s (wA B w) + 1) + 1) else if j = wZ B w then min (s (wZ B w)) (s (wA B w) + 1) else s j : Nat → Nat) = sn
        have snA : sn (wA B w) = min (s (wA B w)) (min (s (wZ B w)) (s (wA B w) + 1) + 1) := by rw [← hs']; exact if_pos rfl
        have snZ : sn (wZ B w) = min (s (wZ B w)) (s (wA B w) + 1) := by rw [← hs']; dsimp only; rw [if_neg (Ne.symm hne), if_pos rfl]
        have sno : ∀ y, y ≠ wA B w → y ≠ wZ B w → sn y = s y := fun y h1 h2 => by rw [← hs']; dsimp only; rw [if_neg h1, if_neg h2]
        have hle : ∀ y, sn y ≤ s y := by
          intro y
          by_cases h1 : y = wA B w
          · rw [h1, snA]; exact Nat.min_le_left _ _
          · by_cases h2 : y = wZ B w
            · rw [h2, snZ]; exact Nat.min_le_left _ _
            · rw [sno y h1 h2]; exact Nat.le_refl _
        have hK' : ∀ j, j < bPl B → (e_u (e_u K 534 (wZ B w) (e_n ((min (s (wZ B w)) (s (wA B w) + 1) : Nat) : Nat))) 534 (wA B w) (e_n ((min (s (wA B w)) (min (s (wZ B w)) (s (wA B w) + 1) + 1) : Nat) : Nat))) 534 j = e_n (sn j : Nat) := by
          intro j hj
          rw [e_u_at, e_u_at]
          by_cases h1 : j = wA B w
          · rw [if_pos h1, h1, snA]
          · rw [if_neg h1]
            by_cases h2 : j = wZ B w
            · rw [if_pos h2, h2, snZ]
            · rw [if_neg h2, sno j h1 h2]; exact hK j hj
        have sA := hD.1 _ wa1
        have sZ := hD.1 _ wz1
        have hZ : min (s (wZ B w)) (s (wA B w) + 1) < 99 → clo (bPl B) (wyE B) (fun j => j = a) (min (s (wZ B w)) (s (wA B w) + 1)) (wZ B w) := by
          intro hlt
          rcases Nat.le_total (s (wZ B w)) (s (wA B w) + 1) with h | h
          · rw [Nat.min_eq_left h] at hlt ⊢; exact sZ.2 hlt
          · rw [Nat.min_eq_right h] at hlt ⊢
            exact Or.inr ⟨wA B w, wa1, sA.2 (by omega), w, hwb, Or.inl ⟨rfl, rfl⟩⟩
        have hD1 : ∀ b, b < bPl B → sn b ≤ 99 ∧ (sn b < 99 → clo (bPl B) (wyE B) (fun j => j = a) (sn b) b) := by
          intro b hb
          by_cases h1 : b = wA B w
          · rw [h1, snA]
            refine ⟨Nat.le_trans (Nat.min_le_left _ _) hsA, fun hlt => ?_⟩
            rcases Nat.le_total (s (wA B w)) (min (s (wZ B w)) (s (wA B w) + 1) + 1) with h | h
            · rw [Nat.min_eq_left h] at hlt ⊢; exact sA.2 hlt
            · rw [Nat.min_eq_right h] at hlt ⊢
              exact Or.inr ⟨wZ B w, wz1, hZ (by omega), w, hwb, Or.inr ⟨rfl, rfl⟩⟩
          · by_cases h2 : b = wZ B w
            · rw [h2, snZ]
              exact ⟨hm1, hZ⟩
            · rw [sno b h1 h2]; exact hD.1 b hb
        have hn' : ∀ b k p v, v < w + 1 → k ≤ zz → p < bPl B → clo (bPl B) (wyE B) (fun j => j = a) k p → ((wA B v = p ∧ b = wZ B v) ∨ (wZ B v = p ∧ b = wA B v)) → sn b ≤ k + 1 := by
          intro b k p v hv hk hp hc he
          by_cases hvw : v = w
          · subst hvw
            have hp0 := hD.2 p k hk hp hc
            rcases he with ⟨he1, he2⟩ | ⟨he1, he2⟩
            · rw [he2, snZ]
              rw [← he1] at hp0
              exact Nat.le_trans (Nat.min_le_right _ _) (by omega)
            · rw [he2, snA]
              rw [← he1] at hp0
              have h3 : min (s (wZ B v)) (s (wA B v) + 1) ≤ k := Nat.le_trans (Nat.min_le_left _ _) hp0
              exact Nat.le_trans (Nat.min_le_right _ _) (by omega)
          · exact Nat.le_trans (hle b) (hn b k p v (by omega) hk hp hc he)
        obtain ⟨K', s', e1, e2, e3, e4⟩ := ih (w + 1) _ sn (by omega) hK' ⟨hD1, fun b k hk hb hc => Nat.le_trans (hle b) (hD.2 b k hk hb hc)⟩ hn' (fun r h1 => by rw [e_u_na h1, e_u_na h1]; exact hr r h1)
        refine ⟨K', s', ?_, e2, e3, e4⟩
        rw [C290_67 (fun _ => InR_n (by omega) (by omega) (by omega)) (fun _ => by rw [e_n_nat' (by omega), w492]; exact InR_n (by omega) (by omega) (by omega)) (fun _ => by rw [e_n_nat' (by omega), w491]; exact InR_n (by omega) (by omega) (by omega)), hr 489 (by decide), hwyc, if_pos (by rw [e_n_ltN (by omega) (by omega)]; omega), e_n_nat' (show w < 2147483648 by omega), w491, w492, e_n_nat' (show wA B w < 2147483648 by omega), e_n_nat' (show wZ B w < 2147483648 by omega), hK _ wa1, hK _ wz1, les _ _ hsZ hsA, e_u_ne hne, hK _ wa1, les _ _ hsA hm1, e_n_succ]
        exact e1
    -- all rounds
    have lz : ∀ k zz (K : Nat → Nat → Int32) (s : Nat → Nat) (u : Value), zz + k = bPl B → (∀ j, j < bPl B → K 534 j = e_n (s j : Nat)) → DsI B a zz s → (∀ r, r ≠ 534 → K r = G r) → ∃ K', e_L (d + 9) 290 56 [.ref 489, .int (e_n (a : Nat)), .int (e_n (q : Nat)), .int (e_n (zz : Nat)), u] [] (mk K z2) = some (.inl (some (.int (fi (fun k => bt (rK (far1 B) h0 k) q) (bPl B) 0))), mk K' z2) ∧ ∀ r, r ≠ 534 → K' r = G r := by
      intro k
      induction k with
      | zero =>
        intro zz K s u hz hK hD hr
        have : zz = bPl B := by omega
        subst this
        refine ⟨K, ?_, hr⟩
        rw [C290_56 (fun _ => InR_n (by omega) (by omega) (by omega)), hr 489 (by decide), hplc, if_neg (by rw [e_n_ltN (by omega) (by omega)]; omega), e_n_nat' (by omega), hK q hqq]
        have hsq := hD.1 q hqq
        by_cases h99 : s q < 99
        · have hc := hsq.2 h99
          have hmin : ∀ j, j < s q → bt (rK (far1 B) h0 j) q = false := by
            intro j hj
            cases hb : bt (rK (far1 B) h0 j) q with
            | false => rfl
            | true =>
              have h1 := clo_end hs0 hE j q ((hclo j q).mp hb)
              have h2 := hD.2 q (bPl B - 1) (by omega) hqq h1
              by_cases hjz : j ≤ bPl B
              · have := hD.2 q j hjz hqq ((hclo j q).mp hb); omega
              · omega
          have hsn : s q < bPl B := by
            have h1 := clo_end hs0 hE (s q) q hc
            have := hD.2 q (bPl B - 1) (by omega) hqq h1
            omega
          rw [if_pos (by rw [show (e_n 99) = e_n ((99 : Nat) : Nat) from rfl, e_n_ltN (by omega) (by omega)]; exact h99), fi_least (c := fun k => bt (rK (far1 B) h0 k) q) (k := s q) ((hclo _ q).mpr hc) (bPl B) 0 (Nat.zero_le _) (by omega) (fun j _ hj => hmin j hj)]
        · rw [if_neg (by rw [show (e_n 99) = e_n ((99 : Nat) : Nat) from rfl, e_n_ltN (by omega) (by omega)]; exact h99), fi_no (c := fun k => bt (rK (far1 B) h0 k) q) (bPl B) 0 (fun j _ hj => by
            cases hb : bt (rK (far1 B) h0 j) q with
            | false => rfl
            | true =>
              have := hD.2 q j (by omega) hqq ((hclo j q).mp hb)
              omega)]
      | succ k ih =>
        intro zz K s u hz hK hD hr
        obtain ⟨K1, s1, e1, e2, e3, e4⟩ := lw zz (bWy B) 0 K s (by omega) hK hD (fun b k p v hv => absurd hv (Nat.not_lt_zero v)) hr
        obtain ⟨K2, f1, f2⟩ := ih (zz + 1) K1 s1 (.int (e_n (bWy B : Nat))) (by omega) e2 e3 e4
        refine ⟨K2, ?_, f2⟩
        rw [C290_56 (fun h => absurd (show e_n (zz : Nat) < K 489 2 by rw [hr 489 (by decide), hplc, e_n_ltN (by omega) (by omega)]; omega) h), hr 489 (by decide), hplc, if_pos (by rw [e_n_ltN (by omega) (by omega)]; omega)]
        exact e1.trans f1
    obtain ⟨K1, e1, e2, e3⟩ := l0 8 0 G (by decide) (fun j hj => absurd hj (Nat.not_lt_zero j)) (fun _ _ => rfl)
    obtain ⟨K2, f1, f2⟩ := lz (bPl B) 0 K1 (fun j => if j = a then 0 else 99) .null (by omega) (fun j hj => e2 j (by omega)) ⟨fun b hb => ⟨by dsimp only; split <;> omega, fun h => by
        by_cases hba : b = a
        · dsimp only; rw [if_pos hba]; exact hba
        · exfalso; dsimp only at h; rw [if_neg hba] at h; omega⟩, fun b k hk hb hc => by
        have : k = 0 := by omega
        subst this
        have hba : b = a := hc
        dsimp only; rw [if_pos hba]; exact Nat.le_refl _⟩ e3
    have fr : RfE J K2 := RfE_tr (RfE_0 (v := e_n 0)) ⟨fun r _ h2 => by rw [f2 r (fun q => h2 (by unfold ScrR; omega)), hG], fun j _ => by rw [f2 489 (by decide), hG]⟩
    refine ⟨K2, fi (fun k => bt (rK (far1 B) h0 k) q) (bPl B) 0, e_E_ret (d := d + 9) ?_, fr, by rw [f2 489 (by decide), ← hG, e_u_same], rfl⟩
    show e_L (d + 9) 290 0 [.ref 489, .int (e_n (a : Nat)), .int (e_n (q : Nat)), .null, .null] [] (mk J z2) = _
    have hG0 : G 489 0 = e_n 0 := by rw [← hG, e_u_same]
    rw [C290_0, hG, c244y rb hG0 hm1, e_rI_i, C290_10, if_neg (by decide), c244y rb hG0 hm2, e_rI_i, C290_18, if_neg (by decide)]
    exact e1.trans f1
end S99e
