/-! what the text of a rule says -/
section S99zs
abbrev YR : Type := (Nat × List Int32) ⊕ (Nat × Nat)
abbrev Ysg (b : Nat → Int32) (n p : Nat) (c : Int32) : Prop := tkK b n p = 3 ∧ b p = c
def Yln (b : Nat → Int32) (n p : Nat) : Nat := tkE b n p - p
def Ynm (b : Nat → Int32) (n p : Nat) : Int32 := nv b p (tkE b n p - p)
def Yb {α β : Type} (r : (Nat × α) ⊕ (Nat × Nat)) (f : Nat → α → (Nat × β) ⊕ (Nat × Nat)) : (Nat × β) ⊕ (Nat × Nat) := match r with
  | .inl q => f q.1 q.2
  | .inr e => .inr e
theorem Yb_l {α β : Type} {p : Nat} {a : α} {f : Nat → α → (Nat × β) ⊕ (Nat × Nat)} : Yb (.inl (p, a)) f = f p a := rfl
theorem Yb_r {α β : Type} {e : Nat × Nat} {f : Nat → α → (Nat × β) ⊕ (Nat × Nat)} : Yb (.inr e) f = .inr e := rfl
def Ypart (b : Nat → Int32) (n : Nat) (sub : Nat → YR) (p : Nat) : YR :=
  if tkK b n p = 1 then (if Yw b n p < 0 ∨ e_n 7 < Yw b n p then .inr (3, p) else .inl (nxP b n p, [e_n (-1) - Yw b n p]))
  else if tkK b n p = 2 then (if 4 < Yln b n p then .inr (2, p) else .inl (nxP b n p, [Ynm b n p]))
  else if Ysg b n p (e_n 40) then Yb (sub (nxP b n p)) (fun q a => if Ysg b n q (e_n 41) then .inl (nxP b n q, a) else .inr (1, q))
  else .inr (1, p)
def Yo (o : Option Int32) (x : YR) (f : Int32 → YR) : YR := match o with
  | none => x
  | some c => f c
theorem Yo_n {x : YR} {f : Int32 → YR} : Yo none x f = x := rfl
theorem Yo_s {c : Int32} {x : YR} {f : Int32 → YR} : Yo (some c) x f = f c := rfl
def Ylp (b : Nat → Int32) (n : Nat) (X : Nat → YR) (tok : Nat → Option Int32) : Nat → Nat → List Int32 → YR
  | 0, p, a => .inl (p, a)
  | f + 1, p, a => Yo (tok p) (.inl (p, a)) (fun c => Yb (X (nxP b n p)) (fun q a2 => Ylp b n X tok f q (a ++ a2 ++ [c])))
theorem Ylp_0 {b : Nat → Int32} {n : Nat} {X : Nat → YR} {tok : Nat → Option Int32} {p : Nat} {a : List Int32} : Ylp b n X tok 0 p a = .inl (p, a) := rfl
theorem Ylp_s {b : Nat → Int32} {n : Nat} {X : Nat → YR} {tok : Nat → Option Int32} {f p : Nat} {a : List Int32} : Ylp b n X tok (f + 1) p a = Yo (tok p) (.inl (p, a)) (fun c => Yb (X (nxP b n p)) (fun q a2 => Ylp b n X tok f q (a ++ a2 ++ [c]))) := rfl
def Yts (b : Nat → Int32) (n : Nat) (s1 s2 c1 c2 : Int32) (p : Nat) : Option Int32 := if Ysg b n p s1 then some c1 else if Ysg b n p s2 then some c2 else none
def Ytw (b : Nat → Int32) (n : Nat) (k c : Int32) (p : Nat) : Option Int32 := if Yw b n p = k then some c else none
theorem Yts_n {b : Nat → Int32} {n : Nat} {s1 s2 c1 c2 : Int32} {p : Nat} (h : Yts b n s1 s2 c1 c2 p = none) : ¬ Ysg b n p s1 ∧ ¬ Ysg b n p s2 := by
  unfold Yts at h
  by_cases h1 : Ysg b n p s1
  · rw [if_pos h1] at h; cases h
  · rw [if_neg h1] at h
    by_cases h2 : Ysg b n p s2
    · rw [if_pos h2] at h; cases h
    · exact ⟨h1, h2⟩
theorem Yts_s {b : Nat → Int32} {n : Nat} {s1 s2 c1 c2 c : Int32} {p : Nat} (h : Yts b n s1 s2 c1 c2 p = some c) : (Ysg b n p s1 ∧ c = c1) ∨ (¬ Ysg b n p s1 ∧ Ysg b n p s2 ∧ c = c2) := by
  unfold Yts at h
  by_cases h1 : Ysg b n p s1
  · rw [if_pos h1] at h
    exact Or.inl ⟨h1, (Option.some.inj h).symm⟩
  · rw [if_neg h1] at h
    by_cases h2 : Ysg b n p s2
    · rw [if_pos h2] at h
      exact Or.inr ⟨h1, h2, (Option.some.inj h).symm⟩
    · rw [if_neg h2] at h; cases h
theorem Yts_k {b : Nat → Int32} {n : Nat} {s1 s2 c1 c2 : Int32} : ∀ p c, Yts b n s1 s2 c1 c2 p = some c → ¬ tkK b n p = 0 := by
  intro p c h h0
  rcases Yts_s h with ⟨q, -⟩ | ⟨-, q, -⟩ <;> exact absurd (h0.symm.trans q.1) (by decide)
theorem Ytw_n {b : Nat → Int32} {n : Nat} {k c1 : Int32} {p : Nat} (h : Ytw b n k c1 p = none) : ¬ Yw b n p = k := by
  unfold Ytw at h
  intro q
  rw [if_pos q] at h
  cases h
theorem Ytw_s {b : Nat → Int32} {n : Nat} {k c1 c : Int32} {p : Nat} (h : Ytw b n k c1 p = some c) : Yw b n p = k ∧ c = c1 := by
  unfold Ytw at h
  by_cases h1 : Yw b n p = k
  · rw [if_pos h1] at h
    exact ⟨h1, (Option.some.inj h).symm⟩
  · rw [if_neg h1] at h; cases h
theorem Ytw_k {b : Nat → Int32} {n k : Nat} {c1 : Int32} (hk : k < 17) : ∀ p c, Ytw b n (e_n (k : Nat)) c1 p = some c → ¬ tkK b n p = 0 := by
  intro p c h h0
  exact absurd ((Yw_1 hk (Ytw_s h).1).symm.trans h0) (by decide)
abbrev Yt6 (b : Nat → Int32) (n : Nat) : Nat → Option Int32 := Yts b n (e_n 42) (e_n 47) (e_n (-16)) (e_n (-17))
abbrev Yt5 (b : Nat → Int32) (n : Nat) : Nat → Option Int32 := Yts b n (e_n 43) (e_n 45) (e_n (-14)) (e_n (-15))
abbrev Yt4 (b : Nat → Int32) (n : Nat) : Nat → Option Int32 := Yts b n (e_n 60) (e_n 61) (e_n (-12)) (e_n (-13))
abbrev Yt2 (b : Nat → Int32) (n : Nat) : Nat → Option Int32 := Ytw b n (e_n ((14 : Nat) : Nat)) (e_n (-10))
abbrev Yt1 (b : Nat → Int32) (n : Nat) : Nat → Option Int32 := Ytw b n (e_n ((15 : Nat) : Nat)) (e_n (-9))
def Yprod (b : Nat → Int32) (n : Nat) (sub : Nat → YR) (p : Nat) : YR := Yb (Ypart b n sub p) (fun q a => Ylp b n (Ypart b n sub) (Yt6 b n) 701 q a)
def Ysum (b : Nat → Int32) (n : Nat) (sub : Nat → YR) (p : Nat) : YR := Yb (Yprod b n sub p) (fun q a => Ylp b n (Yprod b n sub) (Yt5 b n) 701 q a)
def Ytest (b : Nat → Int32) (n : Nat) (sub : Nat → YR) (p : Nat) : YR := Yb (Ysum b n sub p) (fun q a => Ylp b n (Ysum b n sub) (Yt4 b n) 1 q a)
def Ynot (b : Nat → Int32) (n : Nat) (sub : Nat → YR) : Nat → Nat → YR
  | 0, p => if Yw b n p = e_n ((16 : Nat) : Nat) then .inr (2, p) else Ytest b n sub p
  | k + 1, p => if Yw b n p = e_n ((16 : Nat) : Nat) then Yb (Ynot b n sub k (nxP b n p)) (fun q a => .inl (q, a ++ [e_n (-11)])) else Ytest b n sub p
def Yand (b : Nat → Int32) (n : Nat) (sub : Nat → YR) (p : Nat) : YR := Yb (Ynot b n sub 6 p) (fun q a => Ylp b n (Ynot b n sub 6) (Yt2 b n) 701 q a)
def Yor (b : Nat → Int32) (n : Nat) (sub : Nat → YR) (p : Nat) : YR := Yb (Yand b n sub p) (fun q a => Ylp b n (Yand b n sub) (Yt1 b n) 701 q a)
def Yexp (b : Nat → Int32) (n : Nat) : Nat → Nat → YR
  | 0, p => .inr (if tkK b n p = 2 ∨ tkK b n p = 1 ∨ Ysg b n p (e_n 40) then 2 else 1, p)
  | d + 1, p => Yor b n (Yexp b n d) p
theorem nxP_le {b : Nat → Int32} {n p : Nat} (h : p ≤ n) : p ≤ nxP b n p ∧ nxP b n p ≤ n := by
  obtain ⟨h1, h2⟩ := tkE_n (b := b) h
  obtain ⟨h3, h4⟩ := skB_n (b := b) h2
  exact ⟨Nat.le_trans h1 h3, h4⟩
theorem nxP_lt {b : Nat → Int32} {n p : Nat} (h : p < n) : p < nxP b n p ∧ nxP b n p ≤ n := by
  have h1 := tkE_lt (b := b) h
  obtain ⟨h3, h4⟩ := skB_n (b := b) (tkE_n (b := b) (Nat.le_of_lt h)).2
  exact ⟨Nat.lt_of_lt_of_le h1 h3, h4⟩
theorem tkK_c (b : Nat → Int32) (n s : Nat) : tkK b n s = 0 ∨ tkK b n s = 1 ∨ tkK b n s = 2 ∨ tkK b n s = 3 ∨ tkK b n s = 4 := by
  have := tkK_n b n s
  omega
theorem ck_0 {b : Nat → Int32} {n s : Nat} : (ckC b n s = e_n 0) ↔ tkK b n s = 0 := by
  rw [ck_k]
  rcases tkK_c b n s with h | h | h | h | h <;> rw [h] <;> decide
theorem ck_2 {b : Nat → Int32} {n s : Nat} : (ckC b n s = e_n 2) ↔ tkK b n s = 1 := by
  rw [ck_k]
  rcases tkK_c b n s with h | h | h | h | h <;> rw [h] <;> decide
theorem ck_3 {b : Nat → Int32} {n s : Nat} : (ckC b n s = e_n 3) ↔ tkK b n s = 2 := by
  rw [ck_k]
  rcases tkK_c b n s with h | h | h | h | h <;> rw [h] <;> decide
theorem ck_4 {b : Nat → Int32} {n s : Nat} : (ckC b n s = e_n 4) ↔ tkK b n s = 3 := by
  rw [ck_k]
  rcases tkK_c b n s with h | h | h | h | h <;> rw [h] <;> decide
theorem cv_3 {b : Nat → Int32} {n s : Nat} (h : tkK b n s = 3) : cvC b n s = b s := by
  obtain ⟨h1, h2, h3, -⟩ := tk_3 h
  unfold cvC
  rw [if_neg (by omega), if_neg h2, if_neg h3]
theorem cv_1 {b : Nat → Int32} {n s : Nat} (h : tkK b n s = 1) : cvC b n s = wi b s (tkE b n s) := by
  obtain ⟨h1, h2, -⟩ := tk_1 h
  unfold cvC
  rw [if_neg (by omega), if_pos h2]
theorem cv_2 {b : Nat → Int32} {n s : Nat} (h : tkK b n s = 2) : cvC b n s = if 4 < Yln b n s then e_n (-1) else Ynm b n s := by
  obtain ⟨h1, h2, h3, -⟩ := tk_2 h
  unfold cvC Yln Ynm
  rw [if_neg (by omega), if_neg h2, if_pos h3]
  by_cases h4 : 4 < tkE b n s - s
  · rw [if_pos h4, cnv_m b s h4]
  · rw [if_neg h4, cnv_nv b s _ (by omega)]
theorem ck_S {b : Nat → Int32} {n s : Nat} {c : Int32} : (ckC b n s = e_n 4 ∧ cvC b n s = c) ↔ Ysg b n s c := by
  constructor
  · intro h
    have h3 := ck_4.mp h.1
    exact ⟨h3, by rw [← cv_3 h3]; exact h.2⟩
  · intro h
    exact ⟨ck_4.mpr h.1, by rw [cv_3 h.1]; exact h.2⟩
theorem isD_n {c : Int32} (h : isD c = true) : ∃ k : Nat, k < 10 ∧ c = e_n ((48 + k : Nat) : Nat) := by
  obtain ⟨h1, h2⟩ := (isD_e c).mp h
  obtain ⟨a, a1, a2, rfl⟩ := e_n_toI c
  rw [e_n_lt (by omega) (by omega) (by omega) (by omega)] at h1 h2
  exact ⟨(a - 48).toNat, by omega, by congr 1; omega⟩
theorem nv_n {b : Nat → Int32} {s : Nat} : ∀ j, j ≤ 4 → (∀ i, i < j → isD (b (s + i)) = true) → ∃ v : Nat, v < 10 ^ j ∧ nv b s j = e_n (v : Nat)
  | 0, _, _ => ⟨0, by decide, rfl⟩
  | j + 1, hj, hD => by
    obtain ⟨v, v1, v2⟩ := nv_n j (by omega) (fun i hi => hD i (by omega))
    obtain ⟨k, k1, k2⟩ := isD_n (hD j (by omega))
    refine ⟨10 * v + k, ?_, ?_⟩
    · rw [Nat.pow_succ]; omega
    · show (if j < 4 then e_n 10 * nv b s j + b (s + j) - e_n 48 else nv b s j) = _
      rw [if_pos (by omega), v2, k2, e_n_mul, e_n_add, e_n_sub]
      congr 1
      omega
theorem Ynm_n {b : Nat → Int32} {n p : Nat} (h : tkK b n p = 2) (h4 : ¬ 4 < Yln b n p) : ∃ v : Nat, v ≤ 9999 ∧ Ynm b n p = e_n (v : Nat) := by
  obtain ⟨h1, h2, h3, h5⟩ := tk_2 h
  have h6 : tkE b n p - p ≤ 4 := by unfold Yln at h4; omega
  obtain ⟨v, v1, v2⟩ := nv_n (b := b) (s := p) (tkE b n p - p) h6 (fun i hi => by
    rw [h5] at hi
    exact rn_all (P := isD) (b := b) (n := n) (n - p) p (p + i) (by omega) (by omega))
  have : 10 ^ (tkE b n p - p) ≤ 10 ^ 4 := Nat.pow_le_pow_right (by decide) h6
  exact ⟨v, by omega, v2⟩
/-- it goes on, by one byte a code at the least -/
def YG (n : Nat) (X : Nat → YR) : Prop := ∀ p q a, p ≤ n → X p = .inl (q, a) → p + a.length ≤ q ∧ q ≤ n ∧ 1 ≤ a.length
theorem YG_lp {b : Nat → Int32} {n : Nat} {X : Nat → YR} {tok : Nat → Option Int32} (hX : YG n X) (ht : ∀ p c, tok p = some c → ¬ tkK b n p = 0) : ∀ f p q a a2 p0, p0 + a.length ≤ p → p ≤ n → 1 ≤ a.length → Ylp b n X tok f p a = .inl (q, a2) → p0 + a2.length ≤ q ∧ q ≤ n ∧ 1 ≤ a2.length
  | 0, p, q, a, a2, p0, h1, h2, h3, h => by
    rw [Ylp_0] at h
    cases h
    exact ⟨h1, h2, h3⟩
  | f + 1, p, q, a, a2, p0, h1, h2, h3, h => by
    rw [Ylp_s] at h
    cases hc : tok p with
    | none =>
      rw [hc, Yo_n] at h
      cases h
      exact ⟨h1, h2, h3⟩
    | some c =>
      rw [hc, Yo_s] at h
      have hlt := nxP_lt (b := b) (tk_lt (ht p c hc))
      cases hx : X (nxP b n p) with
      | inr e2 =>
        rw [hx] at h
        cases h
      | inl r =>
        obtain ⟨q1, a1⟩ := r
        rw [hx, Yb_l] at h
        obtain ⟨g1, g2, g3⟩ := hX _ _ _ hlt.2 hx
        exact YG_lp hX ht f q1 q _ a2 p0 (by simp; omega) g2 (by simp; omega) h
theorem YG_b {b : Nat → Int32} {n k : Nat} {X Y : Nat → YR} {tok : Nat → Option Int32} (hX : YG n X) (hY : YG n Y) (ht : ∀ p c, tok p = some c → ¬ tkK b n p = 0) : YG n (fun p => Yb (Y p) (fun q a => Ylp b n X tok k q a)) := by
  intro p q a h1 h
  replace h : Yb (Y p) (fun q a => Ylp b n X tok k q a) = .inl (q, a) := h
  cases hy : Y p with
  | inr e => rw [hy] at h; cases h
  | inl r =>
    obtain ⟨q1, a1⟩ := r
    rw [hy, Yb_l] at h
    obtain ⟨g1, g2, g3⟩ := hY _ _ _ h1 hy
    exact YG_lp hX ht k q1 q a1 a p g1 g2 g3 h
theorem YG_part {b : Nat → Int32} {n : Nat} {sub : Nat → YR} (hs : YG n sub) : YG n (Ypart b n sub) := by
  intro p q a h1 h
  unfold Ypart at h
  by_cases k1 : tkK b n p = 1
  · rw [if_pos k1] at h
    have hlt := nxP_lt (b := b) (n := n) (p := p) (tk_1 k1).1
    split at h
    · cases h
    · cases h
      exact ⟨hlt.1, hlt.2, Nat.le_refl _⟩
  · rw [if_neg k1] at h
    by_cases k2 : tkK b n p = 2
    · rw [if_pos k2] at h
      have hlt := nxP_lt (b := b) (n := n) (p := p) (tk_2 k2).1
      split at h
      · cases h
      · cases h
        exact ⟨hlt.1, hlt.2, Nat.le_refl _⟩
    · rw [if_neg k2] at h
      by_cases k3 : Ysg b n p (e_n 40)
      · rw [if_pos k3] at h
        have hlt := nxP_lt (b := b) (n := n) (p := p) (tk_3 k3.1).1
        cases hx : sub (nxP b n p) with
        | inr e => rw [hx] at h; cases h
        | inl r =>
          obtain ⟨q1, a1⟩ := r
          rw [hx, Yb_l] at h
          obtain ⟨g1, g2, g3⟩ := hs _ _ _ hlt.2 hx
          by_cases k4 : Ysg b n q1 (e_n 41)
          · rw [if_pos k4] at h
            cases h
            have hl2 := nxP_le (b := b) g2
            exact ⟨by omega, hl2.2, g3⟩
          · rw [if_neg k4] at h; cases h
      · rw [if_neg k3] at h; cases h
theorem YG_prod {b : Nat → Int32} {n : Nat} {sub : Nat → YR} (hs : YG n sub) : YG n (Yprod b n sub) := YG_b (k := 701) (YG_part hs) (YG_part hs) Yts_k
theorem YG_sum {b : Nat → Int32} {n : Nat} {sub : Nat → YR} (hs : YG n sub) : YG n (Ysum b n sub) := YG_b (k := 701) (YG_prod hs) (YG_prod hs) Yts_k
theorem YG_test {b : Nat → Int32} {n : Nat} {sub : Nat → YR} (hs : YG n sub) : YG n (Ytest b n sub) := YG_b (k := 1) (YG_sum hs) (YG_sum hs) Yts_k
theorem YG_not {b : Nat → Int32} {n : Nat} {sub : Nat → YR} (hs : YG n sub) : ∀ k, YG n (Ynot b n sub k)
  | 0 => by
    intro p q a h1 h
    have e : Ynot b n sub 0 p = if Yw b n p = e_n ((16 : Nat) : Nat) then .inr (2, p) else Ytest b n sub p := rfl
    rw [e] at h
    split at h
    · cases h
    · exact YG_test hs p q a h1 h
  | k + 1 => by
    intro p q a h1 h
    have e : Ynot b n sub (k + 1) p = if Yw b n p = e_n ((16 : Nat) : Nat) then Yb (Ynot b n sub k (nxP b n p)) (fun q a => .inl (q, a ++ [e_n (-11)])) else Ytest b n sub p := rfl
    rw [e] at h
    by_cases hw : Yw b n p = e_n ((16 : Nat) : Nat)
    · rw [if_pos hw] at h
      have hlt := nxP_lt (b := b) (n := n) (p := p) (tk_1 (Yw_1 (k := 16) (by decide) hw)).1
      cases hx : Ynot b n sub k (nxP b n p) with
      | inr e => rw [hx] at h; cases h
      | inl r =>
        obtain ⟨q1, a1⟩ := r
        rw [hx, Yb_l] at h
        cases h
        obtain ⟨g1, g2, g3⟩ := YG_not hs k _ _ _ hlt.2 hx
        exact ⟨by simp; omega, g2, by simp⟩
    · rw [if_neg hw] at h
      exact YG_test hs p q a h1 h
theorem YG_and {b : Nat → Int32} {n : Nat} {sub : Nat → YR} (hs : YG n sub) : YG n (Yand b n sub) := YG_b (k := 701) (YG_not hs 6) (YG_not hs 6) (Ytw_k (by decide))
theorem YG_or {b : Nat → Int32} {n : Nat} {sub : Nat → YR} (hs : YG n sub) : YG n (Yor b n sub) := YG_b (k := 701) (YG_and hs) (YG_and hs) (Ytw_k (by decide))
theorem YG_exp {b : Nat → Int32} {n : Nat} : ∀ d, YG n (Yexp b n d)
  | 0 => fun p q a _ h => by cases h
  | d + 1 => YG_or (YG_exp d)
end S99zs
