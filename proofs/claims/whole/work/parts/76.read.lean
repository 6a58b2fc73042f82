/-! reading calls: count, master, place, person, grudge, sought -/
section S76
def aw (B : e_B) (M : Nat → Int32) : Int32 := itr (fun p q => q ||| (if bR B 1 (M (22 + p)).toNatClampNeg = e_n (-1) then e_shl (e_n 1) (e_n (p : Nat)) else e_n 0)) (bPe B) 0 (e_n 0)
theorem v49h {I : Nat → Nat → Int32} {a b : Nat} {B : e_B} {M : Nat → Int32} (hb : B2 b) (ha : M3 a) (wb : WB B) (wm : WM B M) (hB : BrC I b B) (hM : MoC I a B M) : v49 I a b = aw B M := by
  have wb4 : bPe B ≤ 9 := wb.2.2.2.1
  have wb2 : bPl B ≤ 8 := wb.2.1
  unfold v49 aw
  rw [hB.2.2.2.1, e_n_nat' (by omega)]
  apply itr_congr
  intro p s hp
  obtain ⟨a', ha', hat⟩ := wm.2.1 p hp
  rw [rd_N (by rw [lna3 ha]; omega), (hM.2.2.2.2.2.1 p hp).2.2, hat, rd_N (by rw [lnb2 hb]; omega), e_n_nat' (by omega), hB.2.2.2.2.2.2.1 a' ha']
theorem c240h {d r : Nat} {I : Nat → Nat → Int32} {z : e_Z} {B : e_B} {M : Nat → Int32} (hr : R2 r) (wb : WB B) (wm : WM B M) (hB : RB I B) (hM : ∀ j, j < 34 → I r j = M j) : e_E (d + 2) 240 [.ref 489, .ref r] (mk I z) = some (.inl (some (.int (aw B M))), mk I z) := by
  have wb4 : bPe B ≤ 9 := wb.2.2.2.1
  have wb2 : bPl B ≤ 8 := wb.2.1
  have hp : I 489 4 = e_n (bPe B : Nat) := hB.2.2.2.1
  refine e_E_ret (d := d + 1) ((C240_0 hr).trans ((loopI (fun (i x2 : Int32) => e_L (d + 1) 240 4 [.ref 489, .ref r, .int x2, .int i] [] (mk I z)) (bPe B) (by omega) (fun p q => q ||| (if bR B 1 (M (22 + p)).toNatClampNeg = e_n (-1) then e_shl (e_n 1) (e_n (p : Nat)) else e_n 0)) (fun i a hi => ?_) (e_n 0)).trans ?_))
  · obtain ⟨a', ha', hat⟩ := wm.2.1 i hi
    have h22 : (e_n 22 + e_n (i : Nat)).toNatClampNeg = 22 + i := ix (a := 22) (by omega)
    refine (C240_4 hr (fun _ => ixI (a := 22) (by omega) (by decide)) (fun _ => by rw [h22, hM _ (by omega), hat]; exact InR_n (by omega) (by omega) (by omega))).trans ?_
    rw [if_pos (by rw [hp, e_n_ltN (by omega) (by omega)]; exact hi), h22, hM _ (by omega), hat, e_n_nat' (by omega), hB.2.2.2.2.2.2.2.1 a' ha']
  · refine (C240_4 hr (fun h => absurd h (by rw [hp, e_n_ltN (by omega) (by omega)]; omega)) (fun h => absurd h (by rw [hp, e_n_ltN (by omega) (by omega)]; omega))).trans ?_
    rw [if_neg (by rw [hp, e_n_ltN (by omega) (by omega)]; omega)]
    rfl
-- kin of kin
def kinE (B : e_B) (p i : Nat) : Prop := p < bPe B ∧ i < bPe B ∧ bt (bR B 6 p) i = true
theorem bt_itr_or {n : Nat} {g : Nat → Int32} {c : Nat → Prop} [∀ p, Decidable (c p)] (x : Int32) (i : Nat) : bt (itr (fun p q => if c p then q else q ||| g p) n 0 x) i = true ↔ (bt x i = true ∨ ∃ p, p < n ∧ ¬ c p ∧ bt (g p) i = true) := by
  refine itr_inv (fun k q => bt q i = true ↔ (bt x i = true ∨ ∃ p, p < k ∧ ¬ c p ∧ bt (g p) i = true)) (n := n) (f := fun p q => if c p then q else q ||| g p) (s := x) ?_ ?_
  · constructor
    · exact fun h => Or.inl h
    · rintro (h | ⟨p, hp, -⟩)
      · exact h
      · omega
  · intro k q hk ih
    by_cases hc : c k
    · simp only [hc, if_true]
      rw [ih]
      constructor
      · rintro (h | ⟨p, hp, h⟩)
        · exact Or.inl h
        · exact Or.inr ⟨p, by omega, h⟩
      · rintro (h | ⟨p, hp, h1, h2⟩)
        · exact Or.inl h
        · refine Or.inr ⟨p, ?_, h1, h2⟩
          have : p ≠ k := fun e => h1 (by rw [e]; exact hc)
          omega
    · simp only [hc, if_false]
      rw [bt_or, Bool.or_eq_true, ih]
      constructor
      · rintro ((h | ⟨p, hp, h⟩) | h)
        · exact Or.inl h
        · exact Or.inr ⟨p, by omega, h⟩
        · exact Or.inr ⟨k, by omega, hc, h⟩
      · rintro (h | ⟨p, hp, h1, h2⟩)
        · exact Or.inl (Or.inl h)
        · by_cases hpk : p = k
          · subst hpk; exact Or.inr h2
          · exact Or.inl (Or.inr ⟨p, by omega, h1, h2⟩)
theorem bt_v7 {I : Nat → Nat → Int32} {b : Nat} {B : e_B} {x : Int32} (hb : B2 b) (wb : WB B) (hB : BrC I b B) (i : Nat) : bt (v7 I b x) i = true ↔ ∃ p, p < bPe B ∧ bt x p = true ∧ kinE B p i := by
  have wb4 : bPe B ≤ 9 := wb.2.2.2.1
  unfold v7
  rw [hB.2.2.2.1, e_n_nat' (by omega), bt_itr_or]
  constructor
  · rintro (h | ⟨p, hp, h1, h2⟩)
    · rw [bt_0] at h; cases h
    · have hx : bt x p = true := by
        rw [and_bit _ (by omega)] at h1
        simpa using h1
      rw [rd_N (by rw [lnb17 hb]; omega), (hB.2.2.2.2.2.2.2.2.1 p hp).2.1] at h2
      refine ⟨p, hp, hx, hp, ?_, h2⟩
      apply Decidable.byContradiction
      intro hi
      rw [(wb.2.2.2.2.2.2.2.2.1 p hp).2.2 i (by omega)] at h2
      cases h2
  · rintro ⟨p, hp, hx, h⟩
    refine Or.inr ⟨p, hp, ?_, ?_⟩
    · rw [and_bit _ (by omega), hx]; simp
    · rw [rd_N (by rw [lnb17 hb]; omega), (hB.2.2.2.2.2.2.2.2.1 p hp).2.1]; exact h.2.2
theorem bt_v8 {I : Nat → Nat → Int32} {b : Nat} {B : e_B} {x : Int32} (hb : B2 b) (wb : WB B) (hB : BrC I b B) (i : Nat) : bt (v8 I b x) i = true ↔ clo (bPe B) (kinE B) (fun j => bt x j = true) 9 i := by
  unfold v8
  have := itr_inv (fun k q => ∀ i, bt q i = true ↔ clo (bPe B) (kinE B) (fun j => bt x j = true) k i) (n := 9) (f := fun i8 q8 => q8 ||| (v7 I b q8)) (s := x) (fun i => Iff.rfl) (by
    intro k q hk ih i
    rw [bt_or, Bool.or_eq_true, bt_v7 hb wb hB, ih i]
    constructor
    · rintro (h | ⟨p, hp, h1, h2⟩)
      · exact Or.inl h
      · exact Or.inr ⟨p, hp, (ih p).mp h1, h2⟩
    · rintro (h | ⟨p, hp, h1, h2⟩)
      · exact Or.inl h
      · exact Or.inr ⟨p, hp, (ih p).mpr h1, h2⟩)
  exact this i
/-- barred, as the class reckons it -/
noncomputable def baS (B : e_B) (M : Nat → Int32) : Int32 := msk 32 (fun i => @decide (clo (bPe B) (kinE B) (fun j => bt (lm B M) j = true) 9 i) (Classical.propDecidable _)) &&& (lm B M ^^^ e_n (-1))
theorem bt_msk32 {f : Nat → Bool} {i : Nat} (h : i < 32) : bt (msk 32 f) i = f i := by rw [bt_msk (by decide)]; simp [h]
theorem v8_msk {I : Nat → Nat → Int32} {b : Nat} {B : e_B} {x : Int32} (hb : B2 b) (wb : WB B) (hB : BrC I b B) : v8 I b x = msk 32 (fun i => @decide (clo (bPe B) (kinE B) (fun j => bt x j = true) 9 i) (Classical.propDecidable _)) := by
  apply bt_ext
  intro i hi
  rw [bt_msk32 hi]
  have := bt_v8 (x := x) hb wb hB i
  by_cases hc : clo (bPe B) (kinE B) (fun j => bt x j = true) 9 i
  · rw [this.mpr hc, @decide_eq_true _ (Classical.propDecidable _) hc]
  · rw [@decide_eq_false _ (Classical.propDecidable _) hc]
    cases hq : bt (v8 I b x) i with
    | false => rfl
    | true => exact absurd (this.mp hq) hc
theorem c241h {d : Nat} {I : Nat → Nat → Int32} {z : e_Z} {B : e_B} {M : Nat → Int32} (wb : WB B) (hB : RB I B) (hM : ∀ j, j < 34 → I 515 j = M j) : e_E (d + 2) 241 [.ref 489] (mk I z) = some (.inl (some (.int (baS B M))), mk I z) := by
  have wb4 : bPe B ≤ 9 := wb.2.2.2.1
  have hp : I 489 4 = e_n (bPe B : Nat) := hB.2.2.2.1
  have sym : ∀ p q, p < bPe B → q < bPe B → bt (bR B 6 p) q = bt (bR B 6 q) p := wb.2.2.2.2.2.2.2.2.2.2.2.2.2.2.2.1
  refine e_E_ret (d := d + 1) ?_
  show e_L (d + 1) 241 0 [.ref 489, .null, .null, .null, .null] [] (mk I z) = _
  rw [C241_0, c223h (B := B) (M := M) R2_515 wb4 hp hM, e_rI_i, C241_8]
  generalize hL : lm B M = L
  have hL9 : ∀ i, bt L i = true → i < bPe B := by
    intro i hi
    rw [← hL, bt_lm wb4] at hi
    simp at hi
    exact hi.1
  have hE : ∀ p i, kinE B p i → i < bPe B := fun p i h => h.2.1
  -- a pass
  have hin : ∀ (k p : Nat) (v : Int32) (x3 : Int32), p + k = bPe B → ∃ v', e_L (d + 1) 241 24 [.ref 489, .int L, .int v, .int x3, .int (e_n (p : Nat))] [] (mk I z) = e_L (d + 1) 241 13 [.ref 489, .int L, .int v', .int (x3 + e_n 1), .int (e_n (bPe B : Nat))] [] (mk I z) ∧ (∀ i, bt v i = true → bt v' i = true) ∧ (∀ i q, p ≤ i → bt v q = true → kinE B q i → bt v' i = true) ∧ (∀ i, bt v' i = true → (∃ m, clo (bPe B) (kinE B) (fun j => bt v j = true) m i)) := by
    intro k
    induction k with
    | zero =>
      intro p v x3 hk
      refine ⟨v, ?_, fun _ h => h, ?_, fun i h => ⟨0, h⟩⟩
      · rw [C241_24 (fun h => absurd h (by rw [hp, e_n_ltN (by omega) (by omega)]; omega)), if_neg (by rw [hp, e_n_ltN (by omega) (by omega)]; omega), show p = bPe B by omega]
      · intro i q h1 _ h2
        have := h2.2.1
        omega
    | succ k ih =>
      intro p v x3 hk
      have hv1 : ∀ i, bt (v ||| (if (I 495 p) &&& v = 0 then e_n 0 else e_shl (e_n 1) (e_n (p : Nat)))) i = (bt v i || (decide (¬ (I 495 p) &&& v = 0) && decide (i = p))) := by
        intro i
        rw [bt_or]
        by_cases hc : (I 495 p) &&& v = 0
        · simp [hc, bt_0]
        · simp [hc, bt_bit (show p < 32 by omega)]
      have hc : (¬ (I 495 p) &&& v = 0) ↔ ∃ q, q < bPe B ∧ bt v q = true ∧ kinE B q p := by
        rw [(hB.2.2.2.2.2.2.2.2.2.1 p (by omega)).2]
        constructor
        · intro h
          apply Classical.byContradiction
          intro hno
          apply h
          apply bt_ext
          intro i hi
          rw [bt_and, show (0 : Int32) = e_n 0 from rfl, bt_0]
          cases h1 : bt (bR B 6 p) i
          · rfl
          · cases h2 : bt v i
            · rfl
            · have hi9 : i < bPe B := by
                apply Decidable.byContradiction
                intro hi9
                rw [(wb.2.2.2.2.2.2.2.2.1 p (by omega)).2.2 i (by omega)] at h1
                cases h1
              exact absurd ⟨i, hi9, h2, hi9, by omega, by rw [sym i p hi9 (by omega)]; exact h1⟩ hno
        · rintro ⟨q, hq, h1, h2⟩ h
          have := congrArg (fun w => bt w q) h
          simp only [bt_and] at this
          rw [show (0 : Int32) = e_n 0 from rfl, bt_0, sym p q (by omega) hq, h2.2.2, h1] at this
          cases this
      obtain ⟨v', e1, e2, e3, e4⟩ := ih (p + 1) (v ||| (if (I 495 p) &&& v = 0 then e_n 0 else e_shl (e_n 1) (e_n (p : Nat)))) x3 (by omega)
      refine ⟨v', ?_, ?_, ?_, ?_⟩
      · rw [C241_24 (fun _ => InR_n (by omega) (by omega) (by omega)), if_pos (by rw [hp, e_n_ltN (by omega) (by omega)]; omega), e_n_nat' (by omega), e_n_succ]
        exact e1
      · intro i hi
        exact e2 i (by rw [hv1, hi]; rfl)
      · intro i q hpi hq hkE
        by_cases hip : i = p
        · subst hip
          apply e2
          have : ¬ (I 495 i) &&& v = 0 := hc.mpr ⟨q, hkE.1, hq, hkE⟩
          rw [hv1]; simp [this]
        · exact e3 i q (by omega) (by rw [hv1, hq]; rfl) hkE
      · intro i hi
        obtain ⟨m, hm⟩ := e4 i hi
        -- what the pass began with, seen from v
        have lift : ∀ m i, clo (bPe B) (kinE B) (fun j => bt (v ||| (if (I 495 p) &&& v = 0 then e_n 0 else e_shl (e_n 1) (e_n (p : Nat)))) j = true) m i → clo (bPe B) (kinE B) (fun j => bt v j = true) (m + 1) i := by
          intro m
          induction m with
          | zero =>
            intro i h
            replace h : bt (v ||| (if (I 495 p) &&& v = 0 then e_n 0 else e_shl (e_n 1) (e_n (p : Nat)))) i = true := h
            rw [hv1, Bool.or_eq_true, Bool.and_eq_true] at h
            rcases h with h | ⟨h1, h2⟩
            · exact Or.inl h
            · obtain ⟨q, hq, h3, h4⟩ := hc.mp (by simpa using h1)
              have h2 : i = p := by simpa using h2
              exact Or.inr ⟨q, hq, h3, by rw [h2]; exact h4⟩
          | succ m ihm =>
            rintro i (h | ⟨q, hq, h1, h2⟩)
            · exact Or.inl (ihm i h)
            · exact Or.inr ⟨q, hq, ihm q h1, h2⟩
        exact ⟨m + 1, lift m i hm⟩
  -- all passes
  have hout : ∀ (k t : Nat) (v : Int32) (u : Value), t + k = bPe B → (∀ i, clo (bPe B) (kinE B) (fun j => bt L j = true) t i → bt v i = true) → (∀ i, bt v i = true → ∃ m, clo (bPe B) (kinE B) (fun j => bt L j = true) m i) → e_L (d + 1) 241 13 [.ref 489, .int L, .int v, .int (e_n (t : Nat)), u] [] (mk I z) = some (.inl (some (.int (msk 32 (fun i => @decide (clo (bPe B) (kinE B) (fun j => bt L j = true) 9 i) (Classical.propDecidable _)) &&& (L ^^^ e_n (-1))))), mk I z) := by
    intro k
    induction k with
    | zero =>
      intro t v u hk h1 h2
      rw [C241_13, if_neg (by rw [hp, e_n_ltN (by omega) (by omega)]; omega)]
      have hv : v = msk 32 (fun i => @decide (clo (bPe B) (kinE B) (fun j => bt L j = true) 9 i) (Classical.propDecidable _)) := by
        apply bt_ext
        intro i hi
        rw [bt_msk32 hi]
        by_cases hc : clo (bPe B) (kinE B) (fun j => bt L j = true) 9 i
        · rw [@decide_eq_true _ (Classical.propDecidable _) hc]
          exact h1 i (clo_n hL9 hE 9 i hc (by omega))
        · rw [@decide_eq_false _ (Classical.propDecidable _) hc]
          cases hq : bt v i with
          | false => rfl
          | true =>
            obtain ⟨m, hm⟩ := h2 i hq
            exact absurd (clo_n hL9 hE m i hm (by omega)) hc
      rw [← hv]
    | succ k ih =>
      intro t v u hk h1 h2
      obtain ⟨v', e1, e2, e3, e4⟩ := hin (bPe B) 0 v (e_n (t : Nat)) (by omega)
      rw [C241_13, if_pos (by rw [hp, e_n_ltN (by omega) (by omega)]; omega), show (e_n 0) = e_n ((0 : Nat) : Nat) from rfl, e1, e_n_succ]
      refine ih (t + 1) v' _ (by omega) ?_ ?_
      · rintro i (h | ⟨q, hq, h3, h4⟩)
        · exact e2 i (h1 i h)
        · exact e3 i q (by omega) (h1 q h3) h4
      · intro i hi
        obtain ⟨m, hm⟩ := e4 i hi
        have lift : ∀ m i, clo (bPe B) (kinE B) (fun j => bt v j = true) m i → ∃ m', clo (bPe B) (kinE B) (fun j => bt L j = true) m' i := by
          intro m
          induction m with
          | zero => intro i h; exact h2 i h
          | succ m ihm =>
            rintro i (h | ⟨q, hq, h5, h6⟩)
            · exact ihm i h
            · obtain ⟨m', h7⟩ := ihm q h5
              exact ⟨m' + 1, Or.inr ⟨q, hq, h7, h6⟩⟩
        exact lift m i hm
  have := hout (bPe B) 0 L .null (by omega) (fun i h => h) (fun i h => ⟨0, h⟩)
  unfold baS
  rw [hL]
  exact this
end S76
