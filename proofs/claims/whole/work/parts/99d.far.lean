/-! far, refuge, steps -/
section S99d
theorem fi_more {c : Nat → Bool} : ∀ m i r, (∀ j, i ≤ j → c j = true → ∃ j', i ≤ j' ∧ j' < i + m ∧ c j' = true) → fi c (m + r) i = fi c m i
  | 0, i, r, h => by
    rw [Nat.zero_add]
    rw [fi_no r i (fun j h1 _ => by
      cases hc : c j with
      | false => rfl
      | true =>
        obtain ⟨j', h3, h4, -⟩ := h j h1 hc
        omega)]
    rfl
  | m + 1, i, r, h => by
    rw [show m + 1 + r = m + r + 1 by omega]
    unfold fi
    by_cases hc : c i = true
    · rw [if_pos hc, if_pos hc]
    · rw [if_neg hc, if_neg hc]
      refine fi_more m (i + 1) r (fun j h1 h2 => ?_)
      obtain ⟨j', h3, h4, h5⟩ := h j (by omega) h2
      have : j' ≠ i := fun e => hc (by rw [← e]; exact h5)
      exact ⟨j', by omega, by omega, h5⟩
theorem fi_least {c : Nat → Bool} {k : Nat} (hc : c k = true) : ∀ m i, i ≤ k → k < i + m → (∀ j, i ≤ j → j < k → c j = false) → fi c m i = e_n (k : Nat)
  | 0, i, h1, h2, _ => by omega
  | m + 1, i, h1, h2, h3 => by
    unfold fi
    by_cases hik : i = k
    · rw [hik, if_pos hc]
    · rw [h3 i (Nat.le_refl _) (by omega)]
      exact fi_least hc m (i + 1) (by omega) (by omega) (fun j h4 h5 => h3 j (by omega) h5)
/-- rounds of a set -/
def rK (g : Int32 → Int32) (h : Int32) : Nat → Int32
  | 0 => h
  | k + 1 => g (rK g h k)
theorem rK_clo {n : Nat} {E : Nat → Nat → Prop} {g : Int32 → Int32} {h : Int32} (hg : ∀ q i, bt (g q) i = true ↔ (bt q i = true ∨ ∃ p, p < n ∧ bt q p = true ∧ E p i)) : ∀ k i, bt (rK g h k) i = true ↔ clo n E (fun j => bt h j = true) k i
  | 0, i => Iff.rfl
  | k + 1, i => by
    show bt (g (rK g h k)) i = true ↔ _
    rw [hg]
    constructor
    · rintro (h1 | ⟨p, hp, h1, h2⟩)
      · exact Or.inl ((rK_clo hg k i).mp h1)
      · exact Or.inr ⟨p, hp, (rK_clo hg k p).mp h1, h2⟩
    · rintro (h1 | ⟨p, hp, h1, h2⟩)
      · exact Or.inl ((rK_clo hg k i).mpr h1)
      · exact Or.inr ⟨p, hp, (rK_clo hg k p).mpr h1, h2⟩
theorem kin_g {I : Nat → Nat → Int32} {b : Nat} {B : e_B} (hb : B2 b) (wb : WB B) (hB : BrC I b B) (q : Int32) (i : Nat) : bt (q ||| v7 I b q) i = true ↔ (bt q i = true ∨ ∃ p, p < bPe B ∧ bt q p = true ∧ kinE B p i) := by
  rw [bt_or, Bool.or_eq_true, bt_v7 hb wb hB]
def kin1 (B : e_B) (q : Int32) : Int32 := q ||| itr (fun p s => if q &&& e_shl (e_n 1) (e_n (p : Nat)) = 0 then s else s ||| bR B 6 p) (bPe B) 0 (e_n 0)
theorem kin1_v7 {I : Nat → Nat → Int32} {b : Nat} {B : e_B} (hb : B2 b) (wb : WB B) (hB : BrC I b B) (q : Int32) : q ||| v7 I b q = kin1 B q := by
  have wb4 : bPe B ≤ 9 := wb.2.2.2.1
  unfold kin1 v7
  rw [hB.2.2.2.1, e_n_nat' (by omega)]
  congr 1
  apply itr_congr
  intro p s hp
  rw [rd_N (by rw [lnb17 hb]; omega), (hB.2.2.2.2.2.2.2.2.1 p hp).2.1]
theorem kin1_g {B : e_B} (wb : WB B) (q : Int32) (i : Nat) : bt (kin1 B q) i = true ↔ (bt q i = true ∨ ∃ p, p < bPe B ∧ bt q p = true ∧ kinE B p i) := by
  have wb4 : bPe B ≤ 9 := wb.2.2.2.1
  unfold kin1
  rw [bt_or, Bool.or_eq_true, bt_itr_or]
  constructor
  · rintro (h | h | ⟨p, hp, h1, h2⟩)
    · exact Or.inl h
    · rw [bt_0] at h; cases h
    · have hx : bt q p = true := by
        rw [and_bit _ (by omega)] at h1
        simpa using h1
      refine Or.inr ⟨p, hp, hx, hp, ?_, h2⟩
      apply Decidable.byContradiction
      intro hi
      rw [(wb.2.2.2.2.2.2.2.2.1 p hp).2.2 i (by omega)] at h2
      cases h2
  · rintro (h | ⟨p, hp, hx, h⟩)
    · exact Or.inl h
    · exact Or.inr (Or.inr ⟨p, hp, by rw [and_bit _ (by omega), hx]; simp, h.2.2⟩)
theorem F163 {d : Nat} {c1 : Int32} {I : Nat → Nat → Int32} {z : e_Z} {B : e_B} (H : Rel I z B) {x x2 : Int32} : Face d c1 I z 163 293 [.int x, .int x2] := by
  have wb := rel_wb H
  have wb4 : bPe B ≤ 9 := wb.2.2.2.1
  have hb := B2_bd z.2.1.1
  have hpc := (rel_bc H).2.2.2.1
  by_cases hm : (x < 0 ∨ ¬ x < e_n (bPe B : Nat)) ∨ (x2 < 0 ∨ ¬ x2 < e_n (bPe B : Nat))
  · refine throw_p H ?_ ?_
    · refine (e_E_11 (d := d + 9) (y := 163) rfl).trans ?_
      show e_L (d + 9) 163 0 [.ref 1, .int x, .int x2, .null, .null] [] (mk I z) = _
      rw [C163_0, hpc, if_pos hm]; rfl
    · intro J z2 HJ
      refine ⟨e_n 0, e_E_ret (d := d + 9) ?_⟩
      show e_L (d + 9) 293 0 [.ref 489, .int x, .int x2, .null, .null, .null, .null] [] (mk J z2) = _
      by_cases hm1 : x < 0 ∨ ¬ x < e_n (bPe B : Nat)
      · rw [C293_0, c245n (RB_0 (rel_rb HJ)) K0 hm1, e_rI_i, C293_10, if_pos (by decide)]
      · rw [C293_0, c245y (RB_0 (rel_rb HJ)) K0 hm1, e_rI_i, C293_10, if_neg (by decide), c245n (RB_0 (rel_rb HJ)) K0 (hm.resolve_left hm1), e_rI_i, C293_18, if_pos (by decide)]
  have hm1 : ¬ (x < 0 ∨ ¬ x < e_n (bPe B : Nat)) := fun h => hm (Or.inl h)
  have hm2 : ¬ (x2 < 0 ∨ ¬ x2 < e_n (bPe B : Nat)) := fun h => hm (Or.inr h)
  obtain ⟨p, hp, rfl⟩ := in_n (by omega) hm1
  obtain ⟨q, hqq, rfl⟩ := in_n (by omega) hm2
  generalize hh : e_shl (e_n 1) (e_n (p : Nat)) = h0
  have hs0 : ∀ i, bt h0 i = true → i < bPe B := fun i hi => by
    rw [← hh, bt_bit (by omega)] at hi
    have : i = p := by simpa using hi
    omega
  have hclo := rK_clo (h := h0) (kin1_g wb)
  have hE : ∀ p i, kinE B p i → i < bPe B := fun p i h => h.2.1
  have hmore : ∀ r, fi (fun k => bt (rK (kin1 B) h0 k) q) (bPe B + r) 0 = fi (fun k => bt (rK (kin1 B) h0 k) q) (bPe B) 0 := fun r => fi_more (bPe B) 0 r (fun j _ hj => ⟨bPe B - 1, Nat.zero_le _, by omega, (hclo (bPe B - 1) q).mpr (clo_end hs0 hE j q ((hclo j q).mp hj))⟩)
  refine face_rd H (r := .inl (fi (fun k => bt (rK (kin1 B) h0 k) q) (bPe B) 0)) (I1 := I) (zs_rf z) rfl (e_E_ret (d := d + 9) ?_) (fun _ _ => rfl) ?_
  · show e_L (d + 9) 163 0 [.ref 1, .int (e_n (p : Nat)), .int (e_n (q : Nat)), .null, .null] [] (mk I z) = _
    rw [C163_0, hpc, if_neg hm, hh]
    have loop : ∀ k i, i + k = 9 → e_L (d + 9) 163 18 [.ref 1, .int (e_n (p : Nat)), .int (e_n (q : Nat)), .int (rK (kin1 B) h0 i), .int (e_n (i : Nat))] [] (mk I z) = some (.inl (some (.int (fi (fun k => bt (rK (kin1 B) h0 k) q) k i))), mk I z) := by
      intro k
      induction k with
      | zero =>
        intro i hi
        rw [C163_18, if_neg (by rw [show (e_n 9) = e_n ((9 : Nat) : Nat) from rfl, e_n_ltN (by omega) (by omega)]; omega)]; rfl
      | succ k ih =>
        intro i hi
        rw [C163_18, if_pos (by rw [show (e_n 9) = e_n ((9 : Nat) : Nat) from rfl, e_n_ltN (by omega) (by omega)]; omega)]
        unfold fi
        by_cases hc : bt (rK (kin1 B) h0 i) q = true
        · rw [if_neg (fun h => by rw [and_bit _ (by omega), hc] at h; cases h), if_pos hc]
        · rw [if_pos (by rw [and_bit _ (by omega)]; simpa using hc), if_neg hc, kin1_v7 hb wb (rel_bc H), e_n_succ]
          exact ih (i + 1) (by omega)
    have := loop 9 0 (by decide)
    have e9 := hmore (9 - bPe B)
    rw [show bPe B + (9 - bPe B) = 9 by omega] at e9
    rw [e9] at this
    exact this
  · intro J z2 HJ hq
    have rb := RB_0 (v := e_n 0) (rel_rb HJ)
    have hpe : e_u J 489 0 (e_n 0) 489 4 = e_n (bPe B : Nat) := rb.2.2.2.1
    have inner : ∀ (s : Int32) (x4 : Int32), ∀ k j (v : Int32), j + k = bPe B → e_L (d + 9) 293 57 [.ref 489, .int (e_n (p : Nat)), .int (e_n (q : Nat)), .int s, .int x4, .int v, .int (e_n (j : Nat))] [] (mk (e_u J 489 0 (e_n 0)) z2) = e_L (d + 9) 293 30 [.ref 489, .int (e_n (p : Nat)), .int (e_n (q : Nat)), .int (itr (fun j v => v ||| (if bt s j = true then bR B 6 j else e_n 0)) k j v), .int (x4 + e_n 1), .int (itr (fun j v => v ||| (if bt s j = true then bR B 6 j else e_n 0)) k j v), .int (e_n (bPe B : Nat))] [] (mk (e_u J 489 0 (e_n 0)) z2) := by
      intro s x4 k
      induction k with
      | zero =>
        intro j v hj
        have : j = bPe B := by omega
        subst this
        rw [C293_57 (fun h => absurd h (by rw [hpe, e_n_ltN (by omega) (by omega)]; omega)), hpe, if_neg (by rw [e_n_ltN (by omega) (by omega)]; omega)]; rfl
      | succ k ih =>
        intro j v hj
        have hsj := shr_bit s (show j < 32 by omega)
        have h495 : e_u J 489 0 (e_n 0) 495 j = bR B 6 j := (rb.2.2.2.2.2.2.2.2.2.1 j (by omega)).2
        have hv : (if e_shr s (e_n (j : Nat)) &&& e_n 1 = e_n 1 then bR B 6 j else e_n 0) = (if bt s j = true then bR B 6 j else e_n 0) := by
          by_cases hc : bt s j = true
          · rw [if_pos hc, if_pos (hsj.mpr hc)]
          · rw [if_neg hc, if_neg (fun h => hc (hsj.mp h))]
        rw [C293_57 (fun _ _ => InR_n (by omega) (by omega) (by omega)), hpe, if_pos (by rw [e_n_ltN (by omega) (by omega)]; omega), e_n_nat' (by omega), h495, hv, e_n_succ]
        exact ih (j + 1) _ (by omega)
    have hround : ∀ s : Int32, itr (fun j v => v ||| (if bt s j = true then bR B 6 j else e_n 0)) (bPe B) 0 s = kin1 B s := by
      intro s
      apply bt_ext
      intro i _
      have h1 := itr_inv (fun k v => bt v i = true ↔ (bt s i = true ∨ ∃ p, p < k ∧ bt s p = true ∧ bt (bR B 6 p) i = true)) (n := bPe B) (f := fun j v => v ||| (if bt s j = true then bR B 6 j else e_n 0)) (s := s) (by
        constructor
        · exact fun h => Or.inl h
        · rintro (h | ⟨p, hp, -⟩)
          · exact h
          · omega) (by
        intro k v hk ih
        rw [bt_or, Bool.or_eq_true, ih]
        constructor
        · rintro ((h | ⟨p, hp, h⟩) | h)
          · exact Or.inl h
          · exact Or.inr ⟨p, by omega, h⟩
          · by_cases hc : bt s k = true
            · rw [if_pos hc] at h; exact Or.inr ⟨k, by omega, hc, h⟩
            · rw [if_neg hc, bt_0] at h; cases h
        · rintro (h | ⟨p, hp, h1, h2⟩)
          · exact Or.inl (Or.inl h)
          · by_cases hpk : p = k
            · subst hpk; right; rw [if_pos h1]; exact h2
            · exact Or.inl (Or.inr ⟨p, by omega, h1, h2⟩))
      have h2 := kin1_g wb s i
      have h3 : bt (itr (fun j v => v ||| (if bt s j = true then bR B 6 j else e_n 0)) (bPe B) 0 s) i = true ↔ bt (kin1 B s) i = true := by
        rw [h1, h2]
        constructor
        · rintro (h | ⟨p, hp, h4, h5⟩)
          · exact Or.inl h
          · refine Or.inr ⟨p, hp, h4, hp, ?_, h5⟩
            apply Decidable.byContradiction
            intro hi
            rw [(wb.2.2.2.2.2.2.2.2.1 p hp).2.2 i (by omega)] at h5
            cases h5
        · rintro (h | ⟨p, hp, h4, h5⟩)
          · exact Or.inl h
          · exact Or.inr ⟨p, hp, h4, h5.2.2⟩
      cases h5 : bt (itr (fun j v => v ||| (if bt s j = true then bR B 6 j else e_n 0)) (bPe B) 0 s) i with
      | true => exact (h3.mp h5).symm
      | false =>
        cases h6 : bt (kin1 B s) i with
        | false => rfl
        | true => rw [h3.mpr h6] at h5; cases h5
    have loop : ∀ k i (u5 u6 : Value), i + k = bPe B + 1 → e_L (d + 9) 293 30 [.ref 489, .int (e_n (p : Nat)), .int (e_n (q : Nat)), .int (rK (kin1 B) h0 i), .int (e_n (i : Nat)), u5, u6] [] (mk (e_u J 489 0 (e_n 0)) z2) = some (.inl (some (.int (fi (fun k => bt (rK (kin1 B) h0 k) q) k i))), mk (e_u J 489 0 (e_n 0)) z2) := by
      intro k
      induction k with
      | zero =>
        intro i u5 u6 hi
        rw [C293_30, hpe, if_pos (by rw [e_n_ltN (by omega) (by omega)]; omega)]; rfl
      | succ k ih =>
        intro i u5 u6 hi
        have hsq := shr_bit (rK (kin1 B) h0 i) (show q < 32 by omega)
        rw [C293_30, hpe, if_neg (by rw [e_n_ltN (by omega) (by omega)]; omega)]
        unfold fi
        by_cases hc : bt (rK (kin1 B) h0 i) q = true
        · rw [if_pos (hsq.mpr hc), if_pos hc]
        · rw [if_neg (fun h => hc (hsq.mp h)), if_neg hc]
          refine (inner (rK (kin1 B) h0 i) (e_n (i : Nat)) (bPe B) 0 (rK (kin1 B) h0 i) (by omega)).trans ?_
          rw [hround, e_n_succ]
          exact ih (i + 1) _ _ (by omega)
    have hl := loop (bPe B + 1) 0 .null .null (by omega)
    rw [hmore 1] at hl
    refine ⟨e_u J 489 0 (e_n 0), fi (fun k => bt (rK (kin1 B) h0 k) q) (bPe B) 0, e_E_ret (d := d + 9) ?_, RfE_0, K0, rfl⟩
    show e_L (d + 9) 293 0 [.ref 489, .int (e_n (p : Nat)), .int (e_n (q : Nat)), .null, .null, .null, .null] [] (mk J z2) = _
    rw [C293_0, c245y rb K0 hm1, e_rI_i, C293_10, if_neg (by decide), c245y rb K0 hm2, e_rI_i, C293_18, if_neg (by decide), hh]
    exact hl
end S99d
