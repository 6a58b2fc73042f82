/-! the class's cells for boards and moments; the rule's value -/
section S52
def BrC (I : Nat → Nat → Int32) (b : Nat) (B : e_B) : Prop :=
  I b 2 = e_n (bMa B : Nat) ∧ I (b + 1) 0 = e_n (bPl B : Nat) ∧ I (b + 1) 1 = e_n (bWy B : Nat) ∧ I b 6 = e_n (bPe B : Nat) ∧ I b 10 = e_n (bKi B : Nat) ∧ I b 11 = e_n (bTi B : Nat)
  ∧ (∀ a, a < bPl B → I (b + 2) a = bR B 1 a) ∧ (∀ w, w < bWy B → I (b + 3) w = bR B 2 w ∧ I (b + 4) w = bR B 3 w ∧ I (b + 5) w = bR B 4 w)
  ∧ (∀ p, p < bPe B → I (b + 15) p = bR B 5 p ∧ I (b + 17) p = bR B 6 p ∧ I (b + 16) p = bR B 10 (22 + p))
  ∧ (∀ m, m < bMa B → I (b + 13) m = fm B (e_n (m : Nat)) (e_n 1) ∧ I (b + 14) m = fm B (e_n (m : Nat)) (e_n 0) ∧ I (b + 12) m = bR B 10 (31 + m))
  ∧ (∀ k, k < bTi B → I (b + 18) k = bR B 7 k ∧ I (b + 19) k = bR B 8 k)
  ∧ I (b + 8) 1 = e_n ((bO B).length : Nat) ∧ (∀ j, j < (bO B).length → I (b + 9) j = (bO B).getD j 0)
def MoC (I : Nat → Nat → Int32) (a : Nat) (B : e_B) (M : Nat → Int32) : Prop :=
  I a 0 = M 0 ∧ I a 1 = lm B M ∧ I a 2 = M 1 ∧ I a 3 = M 2 ∧ I a 4 = M 3
  ∧ (∀ p, p < bPe B → I (a + 1) p = M (4 + p) ∧ I (a + 2) p = M (13 + p) ∧ I (a + 3) p = M (22 + p))
  ∧ (∀ p, bPe B ≤ p → p < 9 → I (a + 2) p = e_n (-1)) ∧ (∀ m, m < bMa B → I (a + 4) m = M (31 + m))
/-- what numbers a board may hold -/
def WB (B : e_B) : Prop :=
  bMa B ≤ 3 ∧ bPl B ≤ 8 ∧ bWy B ≤ 12 ∧ bPe B ≤ 9 ∧ bKi B ≤ 9 ∧ bTi B ≤ 12
  ∧ (∀ a, a < bPl B → bR B 1 a = e_n (-1) ∨ ∃ v : Nat, v ≤ 9 ∧ bR B 1 a = e_n (v : Nat))
  ∧ (∀ w, w < bWy B → (∃ a : Nat, a < bPl B ∧ bR B 2 w = e_n (a : Nat)) ∧ (∃ a : Nat, a < bPl B ∧ bR B 3 w = e_n (a : Nat)) ∧ ∃ g : Nat, g ≤ 60 ∧ bR B 4 w = e_n (g : Nat))
  ∧ (∀ p, p < bPe B → (∃ g : Nat, g ≤ 99 ∧ bR B 5 p = e_n (g : Nat)) ∧ (∃ a : Nat, a < bPl B ∧ bR B 10 (22 + p) = e_n (a : Nat)) ∧ (∀ i, bPe B ≤ i → bt (bR B 6 p) i = false))
  ∧ (∀ m, m < bMa B → ∃ v : Nat, v ≤ 999 ∧ bR B 10 (31 + m) = e_n (v : Nat))
  ∧ (∀ k, k < bTi B → (∃ m : Nat, m < bMa B ∧ bR B 7 k = e_n (m : Nat)) ∧ (∃ p : Nat, p < bPe B ∧ bR B 8 k = e_n (p : Nat)) ∧ (bR B 9 k = e_n 0 ∨ bR B 9 k = e_n 1))
  ∧ (bO B).length ≤ 700 ∧ (bO B = [] ∨ okO (bO B) 0 = true)
  ∧ (∀ v, v < bWy B → ∀ w, w < v → ¬ (bR B 2 v = bR B 2 w ∧ bR B 3 v = bR B 3 w) ∧ ¬ (bR B 2 v = bR B 3 w ∧ bR B 3 v = bR B 2 w)) ∧ (∀ w, w < bWy B → ¬ bR B 2 w = bR B 3 w)
  ∧ (∀ p q, p < bPe B → q < bPe B → bt (bR B 6 p) q = bt (bR B 6 q) p)
  ∧ (∀ j k, j < bTi B → k < j → ¬ (bR B 7 j = bR B 7 k ∧ bR B 8 j = bR B 8 k))
/-- what numbers a moment may hold -/
def WM (B : e_B) (M : Nat → Int32) : Prop :=
  (∃ t : Nat, t ≤ 60 ∧ M 0 = e_n (t : Nat) ∧ ∀ p, p < bPe B → M (4 + p) = e_n (-1) ∨ ∃ u : Nat, u ≤ t ∧ M (4 + p) = e_n (u : Nat))
  ∧ (∀ p, p < bPe B → ∃ a : Nat, a < bPl B ∧ M (22 + p) = e_n (a : Nat))
  ∧ (∀ p, p < bPe B → M (13 + p) = e_n (-1) ∨ M (13 + p) = e_n (-2) ∨ ∃ m : Nat, m < bMa B ∧ M (13 + p) = e_n (m : Nat))
  ∧ (M 3 = e_n 0 ∨ M 3 = e_n 1) ∧ (∀ m, m < bMa B → ∃ v : Nat, v ≤ 999 ∧ M (31 + m) = e_n (v : Nat))
  ∧ (∀ i, bPe B ≤ i → bt (M 1) i = false) ∧ M 2 = e_n (cnt (bPe B) (bt (M 1)) : Nat)
theorem BrC_fr {I I' : Nat → Nat → Int32} {b : Nat} {B : e_B} (h : ∀ k, k < 20 → k ≠ 6 → k ≠ 7 → k ≠ 10 → k ≠ 11 → I' (b + k) = I (b + k)) (H : BrC I b B) : BrC I' b B := by
  have h0 : I' b = I b := h 0 (by decide) (by decide) (by decide) (by decide) (by decide)
  unfold BrC at *
  rw [h0, h 1 (by decide) (by decide) (by decide) (by decide) (by decide), h 2 (by decide) (by decide) (by decide) (by decide) (by decide), h 3 (by decide) (by decide) (by decide) (by decide) (by decide), h 4 (by decide) (by decide) (by decide) (by decide) (by decide), h 5 (by decide) (by decide) (by decide) (by decide) (by decide), h 8 (by decide) (by decide) (by decide) (by decide) (by decide), h 9 (by decide) (by decide) (by decide) (by decide) (by decide), h 12 (by decide) (by decide) (by decide) (by decide) (by decide), h 13 (by decide) (by decide) (by decide) (by decide) (by decide), h 14 (by decide) (by decide) (by decide) (by decide) (by decide), h 15 (by decide) (by decide) (by decide) (by decide) (by decide), h 16 (by decide) (by decide) (by decide) (by decide) (by decide), h 17 (by decide) (by decide) (by decide) (by decide) (by decide), h 18 (by decide) (by decide) (by decide) (by decide) (by decide), h 19 (by decide) (by decide) (by decide) (by decide) (by decide)]
  exact H
theorem MoC_fr {I I' : Nat → Nat → Int32} {a : Nat} {B : e_B} {M : Nat → Int32} (h : ∀ k, k < 5 → I' (a + k) = I (a + k)) (H : MoC I a B M) : MoC I' a B M := by
  have h0 : I' a = I a := h 0 (by decide)
  unfold MoC at *
  rw [h0, h 1 (by decide), h 2 (by decide), h 3 (by decide), h 4 (by decide)]
  exact H
theorem B2_le {b : Nat} (h : B2 b) : 4 ≤ b ∧ b ≤ 24 ∧ (b = 4 ∨ 24 ≤ b) := by rcases h with rfl | rfl <;> omega
theorem ln_b9 {b : Nat} (h : B2 b) : ln (b + 9) = 700 := by rcases h with rfl | rfl <;> rfl
theorem ln_b10 {b : Nat} (h : B2 b) : ln (b + 10) = 8 := by rcases h with rfl | rfl <;> rfl
theorem ln_b11 {b : Nat} (h : B2 b) : ln (b + 11) = 40 := by rcases h with rfl | rfl <;> rfl
theorem e_n_nat' {k : Nat} (h : k < 2147483648) : (e_n (k : Nat)).toNatClampNeg = k := by rw [e_n_nat (by omega) (by omega)]; omega
theorem e_n_ltN {a b : Nat} (h : a < 2147483648) (h2 : b < 2147483648) : (e_n (a : Nat) < e_n (b : Nat)) = (a < b) := by
  rw [e_n_lt (by omega) (by omega) (by omega) (by omega)]; apply propext; omega
theorem e_n_succ (k : Nat) : e_n (k : Nat) + e_n 1 = e_n ((k + 1 : Nat) : Nat) := by rw [e_n_add]; rfl
theorem rd_N {I : Nat → Nat → Int32} {r k : Nat} (h : k < ln r) : rd I r (e_n (k : Nat)) = I r k := by rw [rd_n (by omega) (by omega)]; rfl
theorem wr_N {I : Nat → Nat → Int32} {r k : Nat} {v : Int32} (h : k < ln r) : wr I r (e_n (k : Nat)) v = e_u I r k v := by rw [wr_n (by omega) (by omega)]; rfl
theorem e_n_toI (x : Int32) : ∃ a : Int, -2147483648 ≤ a ∧ a < 2147483648 ∧ x = e_n a := ⟨x.toInt, Int32.le_toInt x, Int32.toInt_lt x, (e_n_self x).symm⟩
theorem v92_ap {I : Nat → Nat → Int32} {c a b : Int32} (h : c = e_n (-9) ∨ c = e_n (-10) ∨ c = e_n (-12) ∨ c = e_n (-13) ∨ c = e_n (-14) ∨ c = e_n (-15) ∨ c = e_n (-16) ∨ c = e_n (-17)) : v92 I c a b = ap c a b := by
  unfold v92 ap
  rcases h with rfl | rfl | rfl | rfl | rfl | rfl | rfl | rfl <;> simp (decide := true) only [if_true, if_false] <;> (unfold tf; by_cases h1 : a = 0 <;> by_cases h2 : b = 0 <;> simp [h1, h2])
/-- the value of a rule -/
theorem c91h {d : Nat} {z : e_Z} {b : Nat} (hb : B2 b) (F : Nat → Int32) (ops : List Int32) (hl : ops.length ≤ 700) :
    ∀ (r : List Int32) (i : Nat) (st : List Int32) (I : Nat → Nat → Int32) (u3 : Value), i + r.length = ops.length → I (b + 8) 1 = e_n (ops.length : Nat) → (∀ j, j < r.length → I (b + 9) (i + j) = r.getD j 0) → (∀ k, k < 8 → I (b + 10) k = F k) → okO r st.length = true → st.length ≤ 40 → (∀ k, k < st.length → I (b + 11) (st.length - 1 - k) = st.getD k 0) →
    ∃ I', e_L (d + 1) 91 4 [.ref (b + 8), .int (e_n (st.length : Nat)), .int (e_n (i : Nat)), u3] [] (mk I z) = some (.inl (some (.int ((ev F r st).headD 0))), mk I' z) ∧ ∀ q, q ≠ b + 11 → I' q = I q := by
  intro r
  induction r with
  | nil =>
    intro i st I u3 hi hI8 hc hF hok hst hS
    have h1 : st.length = 1 := by simpa [okO] using hok
    obtain ⟨v, rfl⟩ : ∃ v, st = [v] := by
      match st, h1 with
      | [v], _ => exact ⟨v, rfl⟩
    refine ⟨I, ?_, fun _ _ => rfl⟩
    rw [C91_4 hb, hI8, if_neg (by rw [e_n_ltN (by simp at hi; omega) (by omega)]; simp at hi; omega), show (e_n 0) = e_n ((0 : Nat) : Nat) from rfl, rd_N (by rw [ln_b11 hb]; decide)]
    have := hS 0 (by simp)
    simp at this
    simp [ev, this]
  | cons c r ih =>
    intro i st I u3 hi hI8 hc hF hok hst hS
    have hlen : i < ops.length := by simp at hi; omega
    have hcc : rd I (b + 9) (e_n (i : Nat)) = c := by
      rw [rd_N (by rw [ln_b9 hb]; omega)]
      have := hc 0 (by simp)
      simpa using this
    rw [C91_4 hb, hI8, if_pos (by rw [e_n_ltN (by omega) (by omega)]; exact hlen), hcc, (e_n_succ i : e_n (i : Nat) + e_n 1 = _)]
    have hc2 : ∀ j, j < r.length → I (b + 9) (i + 1 + j) = r.getD j 0 := by
      intro j hj
      have := hc (j + 1) (by simp; omega)
      rw [show i + 1 + j = i + (j + 1) by omega, this]
      simp
    have hi2 : i + 1 + r.length = ops.length := by simp at hi; omega
    rw [okO, Bool.and_eq_true] at hok
    obtain ⟨hk, hok⟩ := hok
    have fin : ∀ (I1 : Nat → Nat → Int32) (st1 : List Int32) (x1 : Int32), x1 = e_n (st1.length : Nat) → st1 = ev1 F c st → (∀ q, q ≠ b + 11 → I1 q = I q) → okO r st1.length = true → st1.length ≤ 40 → (∀ k, k < st1.length → I1 (b + 11) (st1.length - 1 - k) = st1.getD k 0) → ∃ I', e_L (d + 1) 91 4 [.ref (b + 8), .int x1, .int (e_n ((i + 1 : Nat) : Nat)), .int c] [] (mk I1 z) = some (.inl (some (.int ((ev F (c :: r) st).headD 0))), mk I' z) ∧ ∀ q, q ≠ b + 11 → I' q = I q := by
      intro I1 st1 x1 hx hs1 hfr hok1 hle hS1
      obtain ⟨I', h1, h2⟩ := ih (i + 1) st1 I1 (.int c) hi2 (by rw [hfr _ (by omega)]; exact hI8) (fun j hj => by rw [hfr _ (by omega)]; exact hc2 j hj) (fun k hk => by rw [hfr _ (by omega)]; exact hF k hk) hok1 hle hS1
      refine ⟨I', ?_, fun q hq => by rw [h2 q hq, hfr q hq]⟩
      rw [hx, h1, hs1]; rfl
    unfold cOK at hk
    unfold cH at hok
    by_cases hlt : c < e_n (-8)
    · simp only [hlt, if_true] at hk hok ⊢
      by_cases hnot : c = e_n (-11)
      · simp only [hnot, if_true] at hk hok ⊢
        have hpos : 1 ≤ st.length := by simpa using hk
        obtain ⟨a, r', rfl⟩ : ∃ a r', st = a :: r' := by
          match st, hpos with
          | a :: r', _ => exact ⟨a, r', rfl⟩
        have ha : I (b + 11) r'.length = a := by simpa using hS 0 (by simp)
        have hx : e_n (((a :: r').length : Nat) : Nat) - e_n 1 = e_n (r'.length : Nat) := by rw [e_n_sub]; congr 1; simp
        have hr' : r'.length < 40 := by simp at hst; omega
        rw [hx, rd_N (by rw [ln_b11 hb]; omega), wr_N (by rw [ln_b11 hb]; omega), ha]
        rw [hnot] at fin
        refine fin (e_u I (b + 11) r'.length (tf (a = 0))) (tf (a = 0) :: r') _ (by simp) (by unfold ev1; simp (decide := true) only [if_true]) (fun q hq => e_u_na hq) (by simpa using hok) (by simpa using hst) ?_
        intro k hk
        cases k with
        | zero => simp [e_u_same]
        | succ k =>
          have := hS (k + 1) (by simpa using hk)
          simp at hk this ⊢
          rw [e_u_ne (by omega)]
          rw [show r'.length - (k + 1) = r'.length - (k + 1) from rfl]
          simpa using this
      · simp only [hnot, if_false] at hk hok ⊢
        rw [Bool.and_eq_true] at hk
        obtain ⟨h2, hcs⟩ := hk
        have h2 : 2 ≤ st.length := by simpa using h2
        obtain ⟨b0, a0, r', rfl⟩ : ∃ b0 a0 r', st = b0 :: a0 :: r' := by
          match st, h2 with
          | b0 :: a0 :: r', _ => exact ⟨b0, a0, r', rfl⟩
        have hb0 : I (b + 11) (r'.length + 1) = b0 := by simpa using hS 0 (by simp)
        have ha0 : I (b + 11) r'.length = a0 := by simpa using hS 1 (by simp)
        have hx : e_n (((b0 :: a0 :: r').length : Nat) : Nat) + e_n (-1) = e_n ((r'.length + 1 : Nat) : Nat) := by rw [e_n_add]; congr 1; simp; omega
        have hx2 : e_n ((r'.length + 1 : Nat) : Nat) - e_n 1 = e_n (r'.length : Nat) := by rw [e_n_sub]; congr 1; omega
        have hr' : r'.length + 1 < 40 := by simp at hst; omega
        rw [hx, hx2, rd_N (by rw [ln_b11 hb]; omega), rd_N (by rw [ln_b11 hb]; omega), wr_N (by rw [ln_b11 hb]; omega), ha0, hb0, v92_ap (by simpa [or_assoc] using hcs)]
        refine fin (e_u I (b + 11) r'.length (ap c a0 b0)) (ap c a0 b0 :: r') _ (by simp) (by unfold ev1; simp only [hlt, hnot, if_true, if_false]) (fun q hq => e_u_na hq) (by simpa using hok) (by simp at hst ⊢; omega) ?_
        intro k hk
        cases k with
        | zero => simp [e_u_same]
        | succ k =>
          have := hS (k + 2) (by simp at hk ⊢; omega)
          simp at hk this ⊢
          rw [e_u_ne (by omega)]
          simpa using this
    · simp only [hlt, if_false] at hk hok ⊢
      have hlt40 : st.length < 40 := by simpa using hk
      have hv : (if c < 0 then rd I (b + 10) (e_n (-1) - c) else c) = (if c < 0 then F (e_n (-1) - c).toNatClampNeg else c) := by
        by_cases hc0 : c < 0
        · simp only [hc0, if_true]
          obtain ⟨ci, h1, h2, rfl⟩ := e_n_toI c
          rw [e_n_lt h1 h2 (by decide) (by decide)] at hlt
          rw [show (0 : Int32) = e_n 0 from rfl, e_n_lt h1 h2 (by decide) (by decide)] at hc0
          rw [e_n_sub, rd_n (by omega) (by rw [ln_b10 hb]; omega), e_n_nat (by omega) (by omega)]
          exact hF _ (by omega)
        · simp only [hc0, if_false]
      rw [hv, wr_N (by rw [ln_b11 hb]; omega)]
      refine fin (e_u I (b + 11) st.length (if c < 0 then F (e_n (-1) - c).toNatClampNeg else c)) ((if c < 0 then F (e_n (-1) - c).toNatClampNeg else c) :: st) _ (by rw [e_n_succ]; simp) (by unfold ev1; simp only [hlt, if_false]) (fun q hq => e_u_na hq) (by simpa using hok) (by simp; omega) ?_
      intro k hk
      cases k with
      | zero => simp [e_u_same]
      | succ k =>
        have := hS k (by simpa using hk)
        simp at hk this ⊢
        rw [e_u_ne (by omega), show st.length - (k + 1) = st.length - 1 - k by omega]
        simpa using this
end S52
