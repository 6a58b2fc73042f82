/-! ways: what is beyond -/
section S78
def wA (B : e_B) (w : Nat) : Nat := (bR B 2 w).toNatClampNeg
def wZ (B : e_B) (w : Nat) : Nat := (bR B 3 w).toNatClampNeg
def pas (B : e_B) (day ns : Int32) (w : Nat) : Prop := e_n (w : Nat) = ns ∨ day < bR B 4 w
theorem wA_n {B : e_B} {w : Nat} (wb : WB B) (hw : w < bWy B) : wA B w < bPl B ∧ bR B 2 w = e_n (wA B w : Nat) := by
  have wb2 : bPl B ≤ 8 := wb.2.1
  obtain ⟨⟨a, ha, h⟩, -⟩ := wb.2.2.2.2.2.2.2.1 w hw
  unfold wA
  rw [h, e_n_nat' (by omega)]
  exact ⟨ha, rfl⟩
theorem wZ_n {B : e_B} {w : Nat} (wb : WB B) (hw : w < bWy B) : wZ B w < bPl B ∧ bR B 3 w = e_n (wZ B w : Nat) := by
  have wb2 : bPl B ≤ 8 := wb.2.1
  obtain ⟨-, ⟨a, ha, h⟩, -⟩ := wb.2.2.2.2.2.2.2.1 w hw
  unfold wZ
  rw [h, e_n_nat' (by omega)]
  exact ⟨ha, rfl⟩
theorem wg_n {B : e_B} {w : Nat} (wb : WB B) (hw : w < bWy B) : ∃ g : Nat, g ≤ 60 ∧ bR B 4 w = e_n (g : Nat) := (wb.2.2.2.2.2.2.2.1 w hw).2.2
theorem wne {B : e_B} {w : Nat} (wb : WB B) (hw : w < bWy B) : wA B w ≠ wZ B w := by
  intro h
  have h1 := (wA_n wb hw).2
  have h2 := (wZ_n wb hw).2
  have := wb.2.2.2.2.2.2.2.2.2.2.2.2.2.2.1 w hw
  rw [h1, h2, h] at this
  exact this rfl
theorem wdis {B : e_B} {v w : Nat} (wb : WB B) (hv : v < bWy B) (hw : w < v) : ¬ (wA B v = wA B w ∧ wZ B v = wZ B w) ∧ ¬ (wA B v = wZ B w ∧ wZ B v = wA B w) := by
  have := wb.2.2.2.2.2.2.2.2.2.2.2.2.2.1 v hv w hw
  rw [(wA_n wb hv).2, (wZ_n wb hv).2, (wA_n wb (show w < bWy B by omega)).2, (wZ_n wb (show w < bWy B by omega)).2] at this
  exact ⟨fun h => this.1 ⟨by rw [h.1], by rw [h.2]⟩, fun h => this.2 ⟨by rw [h.1], by rw [h.2]⟩⟩
/-- the ways ahead of the k-th, from these -/
def bySt (B : e_B) (x day ns : Int32) (w : Nat) (q : Int32) : Int32 :=
  if e_n (w : Nat) = ns ∨ day < bR B 4 w then (q ||| (if x &&& e_shl (e_n 1) (bR B 2 w) = 0 then e_n 0 else e_shl (e_n 1) (bR B 3 w))) ||| (if x &&& e_shl (e_n 1) (bR B 3 w) = 0 then e_n 0 else e_shl (e_n 1) (bR B 2 w)) else q
def byS (B : e_B) (x day ns : Int32) : Int32 := itr (bySt B x day ns) (bWy B) 0 (e_n 0)
theorem v32h {I : Nat → Nat → Int32} {b : Nat} {B : e_B} {x day ns : Int32} (hb : B2 b) (wb : WB B) (hB : BrC I b B) : v32 I b x day ns = byS B x day ns := by
  have wb3 : bWy B ≤ 12 := wb.2.2.1
  unfold v32 byS
  rw [hB.2.2.1, e_n_nat' (by omega)]
  apply itr_congr
  intro w s hw
  have h := hB.2.2.2.2.2.2.2.1 w hw
  rw [rd_N (by rw [lnb5 hb]; omega), rd_N (by rw [lnb3 hb]; omega), rd_N (by rw [lnb4 hb]; omega), h.1, h.2.1, h.2.2]
  rfl
theorem bt_if {c : Prop} [Decidable c] {y : Int32} {i : Nat} : bt (if c then e_n 0 else y) i = (!decide c && bt y i) := by
  by_cases h : c
  · simp [h, bt_0]
  · simp [h]
theorem bt_if2 {x y : Int32} {a i : Nat} (ha : a < 32) : bt (if x &&& e_shl (e_n 1) (e_n (a : Nat)) = 0 then e_n 0 else y) i = (bt x a && bt y i) := by
  have h := and_bit x ha
  cases hx : bt x a with
  | false => rw [if_pos (h ▸ hx), bt_0]; rfl
  | true => rw [if_neg (fun q => by rw [h, hx] at q; cases q)]; rfl
theorem bt_bySt {B : e_B} {x day ns q : Int32} {w i : Nat} (wb : WB B) (hw : w < bWy B) : bt (bySt B x day ns w q) i = true ↔ (bt q i = true ∨ (pas B day ns w ∧ ((bt x (wA B w) = true ∧ i = wZ B w) ∨ (bt x (wZ B w) = true ∧ i = wA B w)))) := by
  have wb2 : bPl B ≤ 8 := wb.2.1
  obtain ⟨a1, a2⟩ := wA_n wb hw
  obtain ⟨z1, z2⟩ := wZ_n wb hw
  unfold bySt
  by_cases hp : e_n (w : Nat) = ns ∨ day < bR B 4 w
  · rw [if_pos hp, bt_or, bt_or, a2, z2, bt_if2 (by omega), bt_if2 (by omega), bt_bit (by omega), bt_bit (by omega)]
    simp only [show pas B day ns w from hp, true_and]
    cases bt x (wA B w) <;> cases bt x (wZ B w) <;> simp [or_assoc]
  · rw [if_neg hp]
    constructor
    · exact fun h => Or.inl h
    · rintro (h | ⟨h, -⟩)
      · exact h
      · exact absurd h hp
theorem bt_byS {B : e_B} {x day ns : Int32} {i : Nat} (wb : WB B) : bt (byS B x day ns) i = true ↔ ∃ w, w < bWy B ∧ pas B day ns w ∧ ((bt x (wA B w) = true ∧ i = wZ B w) ∨ (bt x (wZ B w) = true ∧ i = wA B w)) := by
  have := itr_inv (fun k q => bt q i = true ↔ ∃ w, w < k ∧ pas B day ns w ∧ ((bt x (wA B w) = true ∧ i = wZ B w) ∨ (bt x (wZ B w) = true ∧ i = wA B w))) (n := bWy B) (f := bySt B x day ns) (s := e_n 0) (by
    constructor
    · intro h; rw [bt_0] at h; cases h
    · rintro ⟨w, hw, -⟩; omega) (by
    intro k q hk ih
    rw [bt_bySt wb hk, ih]
    constructor
    · rintro (⟨w, hw, h⟩ | h)
      · exact ⟨w, by omega, h⟩
      · exact ⟨k, by omega, h⟩
    · rintro ⟨w, hw, h⟩
      by_cases hwk : w = k
      · subst hwk; exact Or.inr h
      · exact Or.inl ⟨w, by omega, h⟩)
  exact this
/-- so many ways there -/
def wyc (B : e_B) (a : Nat) (k : Nat) : Int32 := itr (fun w q => q + tf (bR B 2 w = e_n (a : Nat) ∨ bR B 3 w = e_n (a : Nat))) k 0 (e_n 0)
theorem byS_wyc {B : e_B} {a : Nat} (wb : WB B) (ha : a < bPl B) : v329 (fun _ _ => 0) (byS B (e_shl (e_n 1) (e_n (a : Nat))) (e_n (-1)) (e_n (-1))) = wyc B a (bWy B) := by
  have wb2 : bPl B ≤ 8 := wb.2.1
  have wb3 : bWy B ≤ 12 := wb.2.2.1
  have h9 : ∀ i, 9 ≤ i → bt (byS B (e_shl (e_n 1) (e_n (a : Nat))) (e_n (-1)) (e_n (-1))) i = false := by
    intro i hi
    cases h : bt (byS B (e_shl (e_n 1) (e_n (a : Nat))) (e_n (-1)) (e_n (-1))) i with
    | false => rfl
    | true =>
      obtain ⟨w, hw, -, ⟨-, h2⟩ | ⟨-, h2⟩⟩ := (bt_byS wb).mp h
      · have := (wZ_n wb hw).1; omega
      · have := (wA_n wb hw).1; omega
  rw [v329_bc h9, bc_cnt]
  have key : ∀ k, k ≤ bWy B → wyc B a k = e_n (cnt 9 (bt (itr (bySt B (e_shl (e_n 1) (e_n (a : Nat))) (e_n (-1)) (e_n (-1))) k 0 (e_n 0))) : Nat) ∧ (∀ i, bt (itr (bySt B (e_shl (e_n 1) (e_n (a : Nat))) (e_n (-1)) (e_n (-1))) k 0 (e_n 0)) i = true ↔ ∃ w, w < k ∧ ((wA B w = a ∧ i = wZ B w) ∨ (wZ B w = a ∧ i = wA B w))) := by
    intro k
    induction k with
    | zero =>
      intro _
      refine ⟨?_, fun i => ?_⟩
      · show e_n 0 = e_n (cnt 9 (bt (e_n 0)) : Nat)
        rw [cnt_congr (g := fun _ => false) (fun i _ => bt_0 i)]; rfl
      · constructor
        · intro h
          replace h : bt (e_n 0) i = true := h
          rw [bt_0] at h; cases h
        · rintro ⟨w, hw, -⟩; omega
    | succ k ih =>
      intro hk
      obtain ⟨ih1, ih2⟩ := ih (by omega)
      have hkw : k < bWy B := by omega
      obtain ⟨a1, a2⟩ := wA_n wb hkw
      obtain ⟨z1, z2⟩ := wZ_n wb hkw
      have hne := wne wb hkw
      have hpas : pas B (e_n (-1)) (e_n (-1)) k := by
        obtain ⟨g, hg, h⟩ := wg_n wb hkw
        right
        rw [h, e_n_lt (by decide) (by decide) (by omega) (by omega)]; omega
      have hs : ∀ i, bt (itr (bySt B (e_shl (e_n 1) (e_n (a : Nat))) (e_n (-1)) (e_n (-1))) (k + 1) 0 (e_n 0)) i = true ↔ (bt (itr (bySt B (e_shl (e_n 1) (e_n (a : Nat))) (e_n (-1)) (e_n (-1))) k 0 (e_n 0)) i = true ∨ ((wA B k = a ∧ i = wZ B k) ∨ (wZ B k = a ∧ i = wA B k))) := by
        intro i
        rw [itr_succ, Nat.zero_add, bt_bySt wb hkw, bt_bit (by omega), bt_bit (by omega)]
        simp [hpas]
      refine ⟨?_, fun i => ?_⟩
      · unfold wyc
        rw [itr_succ, Nat.zero_add]
        show wyc B a k + _ = _
        rw [ih1, a2, z2]
        have hinj : ∀ x : Nat, x < 8 → (e_n (x : Nat) = e_n (a : Nat)) = (x = a) := fun x hx => by
          rw [e_n_inj (by omega) (by omega) (by omega) (by omega)]; apply propext; omega
        by_cases hA : wA B k = a
        · have hZ : ¬ wZ B k = a := fun h => hne (by rw [hA, h])
          rw [show tf (e_n (wA B k : Nat) = e_n (a : Nat) ∨ e_n (wZ B k : Nat) = e_n (a : Nat)) = e_n 1 from by unfold tf; rw [if_pos]; left; rw [hA], e_n_succ]
          congr 2
          symm
          refine cnt_up (p := wZ B k) (by omega) (fun i _ hi => ?_) ?_ ?_
          · have := hs i
            cases h1 : bt (itr (bySt B (e_shl (e_n 1) (e_n (a : Nat))) (e_n (-1)) (e_n (-1))) k 0 (e_n 0)) i with
            | true => exact this.mpr (Or.inl h1)
            | false =>
              cases h2 : bt (itr (bySt B (e_shl (e_n 1) (e_n (a : Nat))) (e_n (-1)) (e_n (-1))) (k + 1) 0 (e_n 0)) i with
              | false => rfl
              | true =>
                rcases this.mp h2 with h | ⟨-, h⟩ | ⟨h, -⟩
                · rw [h1] at h; cases h
                · exact absurd h hi
                · exact absurd h hZ
          · cases h1 : bt (itr (bySt B (e_shl (e_n 1) (e_n (a : Nat))) (e_n (-1)) (e_n (-1))) k 0 (e_n 0)) (wZ B k) with
            | false => rfl
            | true =>
              obtain ⟨w, hw, ⟨h3, h4⟩ | ⟨h3, h4⟩⟩ := (ih2 _).mp h1
              · exact absurd ⟨by rw [hA, h3], h4⟩ (wdis wb hkw hw).1
              · exact absurd ⟨by rw [hA, h3], h4⟩ (wdis wb hkw hw).2
          · exact (hs _).mpr (Or.inr (Or.inl ⟨hA, rfl⟩))
        · by_cases hZ : wZ B k = a
          · rw [show tf (e_n (wA B k : Nat) = e_n (a : Nat) ∨ e_n (wZ B k : Nat) = e_n (a : Nat)) = e_n 1 from by unfold tf; rw [if_pos]; right; rw [hZ], e_n_succ]
            congr 2
            symm
            refine cnt_up (p := wA B k) (by omega) (fun i _ hi => ?_) ?_ ?_
            · have := hs i
              cases h1 : bt (itr (bySt B (e_shl (e_n 1) (e_n (a : Nat))) (e_n (-1)) (e_n (-1))) k 0 (e_n 0)) i with
              | true => exact this.mpr (Or.inl h1)
              | false =>
                cases h2 : bt (itr (bySt B (e_shl (e_n 1) (e_n (a : Nat))) (e_n (-1)) (e_n (-1))) (k + 1) 0 (e_n 0)) i with
                | false => rfl
                | true =>
                  rcases this.mp h2 with h | ⟨h, -⟩ | ⟨-, h⟩
                  · rw [h1] at h; cases h
                  · exact absurd h hA
                  · exact absurd h hi
            · cases h1 : bt (itr (bySt B (e_shl (e_n 1) (e_n (a : Nat))) (e_n (-1)) (e_n (-1))) k 0 (e_n 0)) (wA B k) with
              | false => rfl
              | true =>
                obtain ⟨w, hw, ⟨h3, h4⟩ | ⟨h3, h4⟩⟩ := (ih2 _).mp h1
                · exact absurd ⟨h4, by rw [hZ, h3]⟩ (wdis wb hkw hw).2
                · exact absurd ⟨h4, by rw [hZ, h3]⟩ (wdis wb hkw hw).1
            · exact (hs _).mpr (Or.inr (Or.inr ⟨hZ, rfl⟩))
          · rw [show tf (e_n (wA B k : Nat) = e_n (a : Nat) ∨ e_n (wZ B k : Nat) = e_n (a : Nat)) = e_n 0 from by unfold tf; rw [if_neg]; rintro (h | h); exact hA ((hinj _ (by omega)).mp h); exact hZ ((hinj _ (by omega)).mp h), e_n_add]
            congr 1
            rw [cnt_congr (g := bt (itr (bySt B (e_shl (e_n 1) (e_n (a : Nat))) (e_n (-1)) (e_n (-1))) (k + 1) 0 (e_n 0))) (fun i _ => ?_)]
            · omega
            · have := hs i
              cases h1 : bt (itr (bySt B (e_shl (e_n 1) (e_n (a : Nat))) (e_n (-1)) (e_n (-1))) k 0 (e_n 0)) i with
              | true => exact (this.mpr (Or.inl h1)).symm
              | false =>
                cases h2 : bt (itr (bySt B (e_shl (e_n 1) (e_n (a : Nat))) (e_n (-1)) (e_n (-1))) (k + 1) 0 (e_n 0)) i with
                | false => rfl
                | true =>
                  rcases this.mp h2 with h | ⟨h, -⟩ | ⟨h, -⟩
                  · rw [h1] at h; cases h
                  · exact absurd h hA
                  · exact absurd h hZ
      · rw [hs i, ih2 i]
        constructor
        · rintro (⟨w, hw, h⟩ | h)
          · exact ⟨w, by omega, h⟩
          · exact ⟨k, by omega, h⟩
        · rintro ⟨w, hw, h⟩
          by_cases hwk : w = k
          · subst hwk; exact Or.inr h
          · exact Or.inl ⟨w, by omega, h⟩
  rw [(key (bWy B) (Nat.le_refl _)).1]
  rfl
end S78
