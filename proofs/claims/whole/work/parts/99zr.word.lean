/-! the class's words and the reference's are the same words -/
section S99zr
theorem rn_all {P : Int32 → Bool} {b : Nat → Int32} {n : Nat} : ∀ f i m, i ≤ m → m < rn P b n f i → P (b m) = true
  | 0, i, m, h1, h2 => by
    have e : rn P b n 0 i = i := rfl
    omega
  | f + 1, i, m, h1, h2 => by
    have e : rn P b n (f + 1) i = if i < n ∧ P (b i) = true then rn P b n f (i + 1) else i := rfl
    by_cases hc : i < n ∧ P (b i) = true
    · rw [e, if_pos hc] at h2
      by_cases hm : m = i
      · rw [hm]; exact hc.2
      · exact rn_all f (i + 1) m (by omega) h2
    · rw [e, if_neg hc] at h2
      omega
theorem tk_0 {b : Nat → Int32} {n p : Nat} (h : tkK b n p = 0) : n ≤ p := by
  unfold tkK at h
  by_cases h1 : n ≤ p
  · exact h1
  · rw [if_neg h1] at h
    split at h
    · omega
    · split at h
      · omega
      · split at h <;> omega
theorem tk_1 {b : Nat → Int32} {n p : Nat} (h : tkK b n p = 1) : p < n ∧ isL (b p) = true ∧ tkE b n p = rn isL b n (n - p) p := by
  unfold tkK at h
  by_cases h1 : n ≤ p
  · rw [if_pos h1] at h; omega
  · rw [if_neg h1] at h
    by_cases h2 : isL (b p) = true
    · exact ⟨by omega, h2, by unfold tkE; rw [if_neg h1, if_pos h2]⟩
    · rw [if_neg h2] at h
      split at h
      · omega
      · split at h <;> omega
theorem tk_2 {b : Nat → Int32} {n p : Nat} (h : tkK b n p = 2) : p < n ∧ ¬ isL (b p) = true ∧ isD (b p) = true ∧ tkE b n p = rn isD b n (n - p) p := by
  unfold tkK at h
  by_cases h1 : n ≤ p
  · rw [if_pos h1] at h; omega
  · rw [if_neg h1] at h
    by_cases h2 : isL (b p) = true
    · rw [if_pos h2] at h; omega
    · rw [if_neg h2] at h
      by_cases h3 : isD (b p) = true
      · exact ⟨by omega, h2, h3, by unfold tkE; rw [if_neg h1, if_neg h2, if_pos h3]⟩
      · rw [if_neg h3] at h
        split at h <;> omega
theorem tk_3 {b : Nat → Int32} {n p : Nat} (h : tkK b n p = 3) : p < n ∧ ¬ isL (b p) = true ∧ ¬ isD (b p) = true ∧ isS (b p) = true := by
  unfold tkK at h
  by_cases h1 : n ≤ p
  · rw [if_pos h1] at h; omega
  · rw [if_neg h1] at h
    by_cases h2 : isL (b p) = true
    · rw [if_pos h2] at h; omega
    · rw [if_neg h2] at h
      by_cases h3 : isD (b p) = true
      · rw [if_pos h3] at h; omega
      · rw [if_neg h3] at h
        by_cases h4 : isS (b p) = true
        · exact ⟨by omega, h2, h3, h4⟩
        · rw [if_neg h4] at h; omega
theorem tk_lt {b : Nat → Int32} {n p : Nat} (h : ¬ tkK b n p = 0) : p < n := by
  apply Decidable.byContradiction
  intro hn
  refine h ?_
  unfold tkK
  rw [if_pos (by omega)]
theorem ck_k (b : Nat → Int32) (n s : Nat) : ckC b n s = (if tkK b n s = 0 then e_n 0 else if tkK b n s = 1 then e_n 2 else if tkK b n s = 2 then e_n 3 else if tkK b n s = 3 then e_n 4 else e_n 1) := by
  unfold ckC tkK
  by_cases h1 : n ≤ s
  · simp [h1]
  · by_cases h2 : isL (b s) = true
    · simp [h1, h2]
    · by_cases h3 : isD (b s) = true
      · simp [h1, h2, h3]
      · by_cases h4 : isS (b s) = true
        · simp [h1, h2, h3, h4]
        · simp [h1, h2, h3, h4]
theorem pn_inj {x y : Nat → Int32} {s t : Nat} : ∀ j i, (∀ m, m < j → 1 ≤ lv (x (s + m)) ∧ lv (x (s + m)) < 32) → (∀ m, m < i → 1 ≤ lv (y (t + m)) ∧ lv (y (t + m)) < 32) → pn x s j = pn y t i → j = i ∧ ∀ m, m < j → lv (x (s + m)) = lv (y (t + m))
  | 0, 0, _, _, _ => ⟨rfl, fun m hm => absurd hm (Nat.not_lt_zero m)⟩
  | 0, i + 1, _, h2, h => by
    have h3 := (h2 i (by omega)).1
    have e : pn y t (i + 1) = 32 * pn y t i + lv (y (t + i)) := rfl
    have e0 : pn x s 0 = 0 := rfl
    omega
  | j + 1, 0, h1, _, h => by
    have h3 := (h1 j (by omega)).1
    have e : pn x s (j + 1) = 32 * pn x s j + lv (x (s + j)) := rfl
    have e0 : pn y t 0 = 0 := rfl
    omega
  | j + 1, i + 1, h1, h2, h => by
    have e1 : pn x s (j + 1) = 32 * pn x s j + lv (x (s + j)) := rfl
    have e2 : pn y t (i + 1) = 32 * pn y t i + lv (y (t + i)) := rfl
    have a1 := h1 j (by omega)
    have a2 := h2 i (by omega)
    obtain ⟨r1, r2⟩ := pn_inj j i (fun m hm => h1 m (by omega)) (fun m hm => h2 m (by omega)) (by omega)
    subst r1
    refine ⟨rfl, fun m hm => ?_⟩
    by_cases hmj : m = j
    · subst hmj; omega
    · exact r2 m (by omega)
theorem pn_cg {x y : Nat → Int32} {s t : Nat} : ∀ j, (∀ m, m < j → x (s + m) = y (t + m)) → pn x s j = pn y t j
  | 0, _ => rfl
  | j + 1, h => by
    show 32 * pn x s j + lv (x (s + j)) = 32 * pn y t j + lv (y (t + j))
    rw [pn_cg j (fun m hm => h m (by omega)), h j (by omega)]
def rl (k : Nat) : Nat := (rwd.getD k []).length
def rc (k i : Nat) : Int32 := (rwd.getD k []).getD i 0
theorem rl_all : ∀ k, k < 17 → 1 ≤ rl k ∧ rl k ≤ 6 ∧ wcd (rwd.getD k []) = Int64.ofNat (pn (rc k) 0 (rl k)) ∧ cw k < 17 ∧ rl k = tl (cw k) := by
  have : ∀ k : Fin 17, 1 ≤ rl k.val ∧ rl k.val ≤ 6 ∧ wcd (rwd.getD k.val []) = Int64.ofNat (pn (rc k.val) 0 (rl k.val)) ∧ cw k.val < 17 ∧ rl k.val = tl (cw k.val) := by decide +kernel
  exact fun k hk => this ⟨k, hk⟩
theorem rc_all : ∀ k i, k < 17 → i < rl k → isL (rc k i) = true ∧ rc k i = tc (cw k) i := by
  have : ∀ k : Fin 17, ∀ i : Fin 6, i.val < rl k.val → isL (rc k.val i.val) = true ∧ rc k.val i.val = tc (cw k.val) i.val := by decide +kernel
  exact fun k i hk hi => this ⟨k, hk⟩ ⟨i, by have := (rl_all k hk).2.1; omega⟩ hi
theorem lv_L {c : Int32} (h : isL c = true) : 1 ≤ lv c ∧ lv c < 32 := by
  obtain ⟨k, hk, rfl⟩ := isL_n h
  have := (lv_all ⟨k, hk⟩).2
  simp only at this
  omega
theorem lv_eq {c e : Int32} (h : isL c = true) (h2 : isL e = true) (h3 : lv c = lv e) : c = e := by
  obtain ⟨k, hk, rfl⟩ := isL_n h
  obtain ⟨j, hj, rfl⟩ := isL_n h2
  have a1 := (lv_all ⟨k, hk⟩).2
  have a2 := (lv_all ⟨j, hj⟩).2
  simp only at a1 a2
  have : k = j := by omega
  rw [this]
theorem ofN_inj {x y : Nat} (hx : x < 2 ^ 30) (hy : y < 2 ^ 30) (h : Int64.ofNat x = Int64.ofNat y) : x = y := by
  have h2 := congrArg Int64.toInt h
  rwa [Int64.toInt_ofNat_of_lt (by omega), Int64.toInt_ofNat_of_lt (by omega), Int.ofNat_inj] at h2
/-- word k of the reference stands at s, so many letters long -/
def Wm (b : Nat → Int32) (s len k : Nat) : Prop := rl k = len ∧ ∀ i, i < len → rc k i = b (s + i)
theorem wm_pk {b : Nat → Int32} {s len k : Nat} (hk : k < 17) (hl : len ≤ 6) (hL : ∀ i, i < len → isL (b (s + i)) = true) : (wcd (rwd.getD k []) = pk b s len) ↔ Wm b s len k := by
  obtain ⟨r1, r2, r3, -⟩ := rl_all k hk
  obtain ⟨p1, p2⟩ := pk_n b s len hl hL
  have q := (pk_n (rc k) 0 (rl k) r2 (fun i hi => by rw [Nat.zero_add]; exact (rc_all k i hk hi).1)).2
  have b1 : pn b s len < 2 ^ 30 := Nat.lt_of_lt_of_le p2 (Nat.pow_le_pow_right (by decide) (by omega))
  have b2 : pn (rc k) 0 (rl k) < 2 ^ 30 := Nat.lt_of_lt_of_le q (Nat.pow_le_pow_right (by decide) (by omega))
  rw [r3, p1]
  constructor
  · intro h
    obtain ⟨e1, e2⟩ := pn_inj _ _ (fun m hm => by rw [Nat.zero_add]; exact lv_L (rc_all k m hk hm).1) (fun m hm => lv_L (hL m hm)) (ofN_inj b2 b1 h)
    refine ⟨e1, fun i hi => ?_⟩
    have := e2 i (by omega)
    rw [Nat.zero_add] at this
    exact lv_eq (rc_all k i hk (by omega)).1 (hL i hi) this
  · intro h
    rw [h.1]
    congr 1
    exact pn_cg len (fun m hm => by rw [Nat.zero_add]; exact h.2 m hm)
theorem spl_i {b : Nat → Int32} {k s : Nat} : ∀ f i, (spl b k s f i = true) ↔ ∀ m, i ≤ m → m < i + f → tc k m = b (s + m)
  | 0, i => ⟨fun _ m h1 h2 => by omega, fun _ => rfl⟩
  | f + 1, i => by
    have e : spl b k s (f + 1) i = if tc k i = b (s + i) then spl b k s f (i + 1) else false := rfl
    rw [e]
    by_cases h : tc k i = b (s + i)
    · rw [if_pos h, spl_i f (i + 1)]
      constructor
      · intro q m h1 h2
        by_cases hm : m = i
        · rw [hm]; exact h
        · exact q m (by omega) (by omega)
      · intro q m h1 h2
        exact q m (by omega) (by omega)
    · rw [if_neg h]
      exact ⟨fun q => absurd q (by decide), fun q => absurd (q i (Nat.le_refl i) (by omega)) h⟩
theorem wEq_m {b : Nat → Int32} {s e k : Nat} (hk : k < 17) : (wEq b (cw k) s e = true) ↔ Wm b s (e - s) k := by
  obtain ⟨r1, r2, r3, r4, r5⟩ := rl_all k hk
  unfold wEq Wm
  rw [r5]
  by_cases h : tl (cw k) = e - s
  · rw [if_pos h, spl_i]
    constructor
    · intro q
      exact ⟨h, fun i hi => by rw [(rc_all k i hk (by omega)).2]; exact q i (Nat.zero_le _) (by omega)⟩
    · intro q m h1 h2
      rw [← (rc_all k m hk (by omega)).2]
      exact q.2 m (by omega)
  · rw [if_neg h]
    exact ⟨fun q => absurd q (by decide), fun q => absurd q.1 h⟩
theorem fw_c (c : Int64) : ∀ f k, (∃ m, k ≤ m ∧ m < k + f ∧ wcd (rwd.getD m []) = c ∧ fw c f k = e_n (m : Nat)) ∨ ((∀ m, k ≤ m → m < k + f → ¬ wcd (rwd.getD m []) = c) ∧ fw c f k = e_n (-1))
  | 0, k => Or.inr ⟨fun m h1 h2 => by omega, rfl⟩
  | f + 1, k => by
    have e : fw c (f + 1) k = if lg_cmp (wcd (rwd.getD k [])) c = 0 then e_n (k : Nat) else fw c f (k + 1) := rfl
    rw [e]
    by_cases h : wcd (rwd.getD k []) = c
    · rw [if_pos ((lg_eq _ _).mpr h)]
      exact Or.inl ⟨k, Nat.le_refl k, by omega, h, rfl⟩
    · rw [if_neg (fun q => h ((lg_eq _ _).mp q))]
      rcases fw_c c f (k + 1) with ⟨m, h1, h2, h3, h4⟩ | ⟨h1, h2⟩
      · exact Or.inl ⟨m, by omega, by omega, h3, h4⟩
      · refine Or.inr ⟨fun m q1 q2 => ?_, h2⟩
        by_cases hm : m = k
        · rw [hm]; exact h
        · exact h1 m (by omega) (by omega)
theorem cw_on : ∀ i, i < 17 → ∃ k, k < 17 ∧ cw k = i := by
  have : ∀ i : Fin 17, ∃ k : Fin 17, cw k.val = i.val := by decide +kernel
  intro i hi
  obtain ⟨k, hk⟩ := this ⟨i, hi⟩
  exact ⟨k.val, k.isLt, hk⟩
theorem cw_inj : ∀ j k, j < 17 → k < 17 → cw j = cw k → j = k := by
  have : ∀ j k : Fin 17, cw j.val = cw k.val → j.val = k.val := by decide +kernel
  exact fun j k hj hk => this ⟨j, hj⟩ ⟨k, hk⟩
theorem wi_1 {b : Nat → Int32} {s e k : Nat} (hk : k < 17) (h : Wm b s (e - s) k) (hu : ∀ j, j < 17 → Wm b s (e - s) j → j = k) : wi b s e = e_n (cw k : Nat) := by
  have h17 := (rl_all k hk).2.2.2.1
  have := itr_inv (fun i q => q = if cw k < i then e_n (cw k : Nat) else e_n (-1)) (n := 17) (f := fun k q => if wEq b k s e = true then e_n (k : Nat) else q) (s := e_n (-1)) (by rw [if_neg (by omega)]) (by
    intro i q hi hq
    obtain ⟨j, hj, rfl⟩ := cw_on i hi
    show (if wEq b (cw j) s e = true then e_n (cw j : Nat) else q) = _
    by_cases hm : Wm b s (e - s) j
    · rw [if_pos ((wEq_m hj).mpr hm), hu j hj hm, if_pos (by omega)]
    · rw [if_neg (fun q2 => hm ((wEq_m hj).mp q2)), hq]
      have hne : ¬ cw j = cw k := fun q2 => hm (by rw [cw_inj j k hj hk q2]; exact h)
      by_cases h3 : cw k < cw j
      · rw [if_pos h3, if_pos (by omega)]
      · rw [if_neg h3, if_neg (by omega)])
  unfold wi
  rw [this, if_pos h17]
theorem wi_0 {b : Nat → Int32} {s e : Nat} (h : ∀ j, j < 17 → ¬ Wm b s (e - s) j) : wi b s e = e_n (-1) := by
  exact itr_inv (fun i q => q = e_n (-1)) (n := 17) (f := fun k q => if wEq b k s e = true then e_n (k : Nat) else q) (s := e_n (-1)) rfl (by
    intro i q hi hq
    obtain ⟨j, hj, rfl⟩ := cw_on i hi
    show (if wEq b (cw j) s e = true then e_n (cw j : Nat) else q) = _
    rw [if_neg (fun q2 => h j hj ((wEq_m hj).mp q2)), hq])
/-- the word that stands there, by the reference's order; none: -1 -/
def Yw (b : Nat → Int32) (n p : Nat) : Int32 := if tkK b n p = 1 then (if 6 < tkE b n p - p then e_n (-1) else fw (pk b p (tkE b n p - p)) 17 0) else e_n (-1)
theorem Yw_w {b : Nat → Int32} {n p : Nat} (h : tkK b n p = 1) : (∃ k, k < 17 ∧ Yw b n p = e_n (k : Nat) ∧ wi b p (tkE b n p) = e_n (cw k : Nat) ∧ tkE b n p - p = rl k) ∨ (Yw b n p = e_n (-1) ∧ wi b p (tkE b n p) = e_n (-1)) := by
  obtain ⟨h1, h2, h3⟩ := tk_1 h
  have hL : ∀ i, i < tkE b n p - p → isL (b (p + i)) = true := fun i hi => by
    rw [h3] at hi
    exact rn_all (P := isL) (b := b) (n := n) (n - p) p (p + i) (by omega) (by omega)
  unfold Yw
  rw [if_pos h]
  by_cases h6 : 6 < tkE b n p - p
  · rw [if_pos h6]
    exact Or.inr ⟨rfl, wi_0 (fun j hj hm => by have := (rl_all j hj).2.1; have := hm.1; omega)⟩
  · rw [if_neg h6]
    have hl : tkE b n p - p ≤ 6 := by omega
    rcases fw_c (pk b p (tkE b n p - p)) 17 0 with ⟨k, -, hk, hc, hf⟩ | ⟨hn, hf⟩
    · rw [Nat.zero_add] at hk
      have hm := (wm_pk hk hl hL).mp hc
      exact Or.inl ⟨k, hk, hf, wi_1 hk hm (fun j hj hj2 => by
        have e := ((wm_pk hj hl hL).mpr hj2).trans hc.symm
        exact congrArg Fin.val (wcd_inj ⟨j, hj⟩ ⟨k, hk⟩ e)), hm.1.symm⟩
    · exact Or.inr ⟨hf, wi_0 (fun j hj hm => hn j (Nat.zero_le j) (by omega) ((wm_pk hj hl hL).mpr hm))⟩
theorem Yw_n {b : Nat → Int32} {n p : Nat} (h : ¬ tkK b n p = 1) : Yw b n p = e_n (-1) := if_neg h
theorem Yw_1 {b : Nat → Int32} {n p k : Nat} (hk : k < 17) (h : Yw b n p = e_n (k : Nat)) : tkK b n p = 1 := by
  apply Decidable.byContradiction
  intro h2
  rw [Yw_n h2, e_n_inj (by omega) (by omega) (by omega) (by omega)] at h
  omega
end S99zr
