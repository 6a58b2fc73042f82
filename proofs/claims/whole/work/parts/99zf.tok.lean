/-! the reference reads a token -/
section S99zf
def LF (z z' : e_Z) : Prop := z'.2 = z.2 ∧ ∀ a k, ¬ (a = 489 ∧ k = 30) → z'.1 a k = z.1 a k
theorem LF_rf (z : e_Z) : LF z z := ⟨rfl, fun _ _ _ => rfl⟩
theorem LF_tr {a b c : e_Z} (h : LF a b) (g : LF b c) : LF a c := ⟨g.1.trans h.1, fun x k q => (g.2 x k q).trans (h.2 x k q)⟩
theorem LF_u {z : e_Z} {v : Int64} : LF z (e_u z.1 489 30 v, z.2) := ⟨rfl, fun a k h => by
  show e_u z.1 489 30 v a k = z.1 a k
  unfold e_u
  by_cases ha : a = 489
  · rw [if_pos ha]
    show (if k = 30 then v else z.1 489 k) = z.1 a k
    rw [if_neg (fun hk => h ⟨ha, hk⟩), ha]
  · rw [if_neg ha]⟩
theorem uj_same {J : Nat → Nat → Int64} {a k : Nat} {v : Int64} : e_u J a k v a k = v := by
  unfold e_u
  rw [if_pos rfl]
  exact if_pos rfl
theorem isL_e (c : Int32) : (isL c = true) = (¬ c < e_n 97 ∧ ¬ e_n 122 < c) := by unfold isL; rw [decide_eq_true_eq]
theorem isD_e (c : Int32) : (isD c = true) = (¬ c < e_n 48 ∧ ¬ e_n 57 < c) := by unfold isD; rw [decide_eq_true_eq]
/-- the letters -/
theorem c187w {d n s : Nat} {b : Nat → Int32} {x1 : Int32} (hn : n ≤ 700) : ∀ (f j : Nat) (J : Nat → Nat → Int32) (z : e_Z), n - (s + j) = f → s + j ≤ n → J 489 23 = e_n (n : Nat) → J 489 24 = e_n ((s + j : Nat) : Nat) → J 489 26 = e_n (s : Nat) → z.1 489 30 = pk b s j → (∀ k, k < n → J 500 k = b k) →
    ∃ J' z', e_L (d + 1) 187 108 [.ref 489, .int x1] [] (mk J z) = some (.inl none, mk J' z') ∧ TF J J' ∧ LF z z' ∧ J' 489 24 = e_n (rn isL b n f (s + j) : Nat) ∧ J' 489 25 = e_n 1 ∧ J' 489 26 = e_n (s : Nat) ∧ J' 489 27 = e_n ((rn isL b n f (s + j) - s : Nat) : Nat) ∧ J' 489 28 = J 489 28 ∧ J' 489 29 = J 489 29 ∧ z'.1 489 30 = pk b s (rn isL b n f (s + j) - s) := by
  intro f
  induction f with
  | zero =>
    intro j J z hf hi h23 h24 h26 hp hb
    have hsn : s + j = n := by omega
    have hr : rn isL b n 0 (s + j) = s + j := rfl
    refine ⟨e_u (e_u J 489 25 (e_n 1)) 489 27 (e_n ((s + j : Nat) : Nat) - e_n (s : Nat)), z, ?_, TF_tr (TF_u (by omega)) (TF_u (by omega)), LF_rf z, ?_, ?_, ?_, ?_, ?_, ?_, ?_⟩
    · rw [C187_108, h24, c184h hn h23 hi, e_rI_i, if_neg (by omega), C187_116, if_neg (by decide), h24, h26]
    · rw [e_u_ne (by decide), e_u_ne (by decide), hr]; exact h24
    · rw [e_u_ne (by decide), e_u_same]
    · rw [e_u_ne (by decide), e_u_ne (by decide)]; exact h26
    · rw [e_u_same, hr, e_n_sub]; congr 1; omega
    · rw [e_u_ne (by decide), e_u_ne (by decide)]
    · rw [e_u_ne (by decide), e_u_ne (by decide)]
    · rw [hr, show s + j - s = j by omega]; exact hp
  | succ f ih =>
    intro j J z hf hi h23 h24 h26 hp hb
    have hlt : s + j < n := by omega
    have hbi := hb (s + j) hlt
    by_cases hL : isL (b (s + j)) = true
    · have hr : rn isL b n (f + 1) (s + j) = rn isL b n f (s + (j + 1)) := by show (if s + j < n ∧ isL (b (s + j)) = true then _ else _) = _; rw [if_pos ⟨hlt, hL⟩]; rfl
      have hL' := (isL_e _).mp hL
      rw [hr]
      have h6 : (e_n ((s + j : Nat) : Nat) - e_n (s : Nat) < e_n 6) = (j < 6) := by rw [e_n_sub, show (((s + j : Nat) : Int) - (s : Nat)) = (j : Nat) by omega, show (e_n 6) = e_n ((6 : Nat) : Nat) from rfl, e_n_ltN (by omega) (by omega)]
      have h24' : e_n ((s + j : Nat) : Nat) + e_n 1 = e_n ((s + (j + 1) : Nat) : Nat) := e_n_succ _
      by_cases hj : j < 6
      · have hpk : e_lsh (z.1 489 30) (e_n 5) ||| (b (s + j) - e_n 96).toInt64 = pk b s (j + 1) := by
          rw [hp]
          show _ = (if j < 6 then e_lsh (pk b s j) (e_n 5) ||| (b (s + j) - e_n 96).toInt64 else pk b s j)
          rw [if_pos hj]
        obtain ⟨J', z', a1, a2, a3, a4⟩ := ih (j + 1) (e_u J 489 24 (e_n ((s + (j + 1) : Nat) : Nat))) (e_u z.1 489 30 (e_lsh (z.1 489 30) (e_n 5) ||| (b (s + j) - e_n 96).toInt64), z.2) (by omega) (by omega) (by rw [e_u_ne (by decide)]; exact h23) e_u_same (by rw [e_u_ne (by decide)]; exact h26) ((uj_same (J := z.1) (a := 489) (k := 30)).trans hpk) (fun k hk => by rw [e_u_na (by decide)]; exact hb k hk)
        obtain ⟨a4, a5, a6, a7, a8, a9, a10⟩ := a4
        refine ⟨J', z', ?_, TF_tr (TF_u (by omega)) a2, LF_tr LF_u a3, a4, a5, a6, a7, by rw [a8, e_u_ne (by decide)], by rw [a9, e_u_ne (by decide)], a10⟩
        rw [C187_108, h24, c184h hn h23 hi, e_rI_i, if_pos hlt, hbi, C187_116, if_pos hL', h24, h26, if_pos (h6.mpr hj), c184h hn h23 hi, e_rI_i, if_pos hlt, hbi, C187_151, h24, h24']
        exact a1
      · obtain ⟨J', z', a1, a2, a3, a4⟩ := ih (j + 1) (e_u J 489 24 (e_n ((s + (j + 1) : Nat) : Nat))) z (by omega) (by omega) (by rw [e_u_ne (by decide)]; exact h23) e_u_same (by rw [e_u_ne (by decide)]; exact h26) (by
          rw [hp]
          show _ = (if j < 6 then _ else _)
          rw [if_neg hj]) (fun k hk => by rw [e_u_na (by decide)]; exact hb k hk)
        obtain ⟨a4, a5, a6, a7, a8, a9, a10⟩ := a4
        refine ⟨J', z', ?_, TF_tr (TF_u (by omega)) a2, a3, a4, a5, a6, a7, by rw [a8, e_u_ne (by decide)], by rw [a9, e_u_ne (by decide)], a10⟩
        rw [C187_108, h24, c184h hn h23 hi, e_rI_i, if_pos hlt, hbi, C187_116, if_pos hL', h24, h26, if_neg (fun q => hj (h6.mp q)), h24']
        exact a1
    · have hr : rn isL b n (f + 1) (s + j) = s + j := by show (if s + j < n ∧ isL (b (s + j)) = true then _ else _) = _; rw [if_neg (fun h => hL h.2)]
      refine ⟨e_u (e_u J 489 25 (e_n 1)) 489 27 (e_n ((s + j : Nat) : Nat) - e_n (s : Nat)), z, ?_, TF_tr (TF_u (by omega)) (TF_u (by omega)), LF_rf z, ?_, ?_, ?_, ?_, ?_, ?_, ?_⟩
      · rw [C187_108, h24, c184h hn h23 hi, e_rI_i, if_pos hlt, hbi, C187_116, if_neg (fun h => hL ((isL_e _).mpr h)), h24, h26]
      · rw [e_u_ne (by decide), e_u_ne (by decide), hr]; exact h24
      · rw [e_u_ne (by decide), e_u_same]
      · rw [e_u_ne (by decide), e_u_ne (by decide)]; exact h26
      · rw [e_u_same, hr, e_n_sub]; congr 1; omega
      · rw [e_u_ne (by decide), e_u_ne (by decide)]
      · rw [e_u_ne (by decide), e_u_ne (by decide)]
      · rw [hr, show s + j - s = j by omega]; exact hp
/-- the digits -/
theorem c187d {d n s : Nat} {b : Nat → Int32} {x1 : Int32} (hn : n ≤ 700) : ∀ (f j : Nat) (J : Nat → Nat → Int32) (z : e_Z), n - (s + j) = f → s + j ≤ n → J 489 23 = e_n (n : Nat) → J 489 24 = e_n ((s + j : Nat) : Nat) → J 489 26 = e_n (s : Nat) → J 489 28 = nv b s j → (∀ k, k < n → J 500 k = b k) →
    ∃ J', e_L (d + 1) 187 187 [.ref 489, .int x1] [] (mk J z) = some (.inl none, mk J' z) ∧ TF J J' ∧ J' 489 24 = e_n (rn isD b n f (s + j) : Nat) ∧ J' 489 25 = e_n 2 ∧ J' 489 26 = e_n (s : Nat) ∧ J' 489 27 = e_n ((rn isD b n f (s + j) - s : Nat) : Nat) ∧ J' 489 28 = nv b s (rn isD b n f (s + j) - s) ∧ J' 489 29 = J 489 29 := by
  intro f
  induction f with
  | zero =>
    intro j J z hf hi h23 h24 h26 hp hb
    have hsn : s + j = n := by omega
    have hr : rn isD b n 0 (s + j) = s + j := rfl
    refine ⟨e_u (e_u J 489 25 (e_n 2)) 489 27 (e_n ((s + j : Nat) : Nat) - e_n (s : Nat)), ?_, TF_tr (TF_u (by omega)) (TF_u (by omega)), ?_, ?_, ?_, ?_, ?_, ?_⟩
    · rw [C187_187, h24, c184h hn h23 hi, e_rI_i, if_neg (by omega), C187_195, if_neg (by decide), h24, h26]
    · rw [e_u_ne (by decide), e_u_ne (by decide), hr]; exact h24
    · rw [e_u_ne (by decide), e_u_same]
    · rw [e_u_ne (by decide), e_u_ne (by decide)]; exact h26
    · rw [e_u_same, hr, e_n_sub]; congr 1; omega
    · rw [e_u_ne (by decide), e_u_ne (by decide), hr, show s + j - s = j by omega]; exact hp
    · rw [e_u_ne (by decide), e_u_ne (by decide)]
  | succ f ih =>
    intro j J z hf hi h23 h24 h26 hp hb
    have hlt : s + j < n := by omega
    have hbi := hb (s + j) hlt
    by_cases hL : isD (b (s + j)) = true
    · have hr : rn isD b n (f + 1) (s + j) = rn isD b n f (s + (j + 1)) := by show (if s + j < n ∧ isD (b (s + j)) = true then _ else _) = _; rw [if_pos ⟨hlt, hL⟩]; rfl
      have hL' := (isD_e _).mp hL
      rw [hr]
      have h6 : (e_n ((s + j : Nat) : Nat) - e_n (s : Nat) < e_n 4) = (j < 4) := by rw [e_n_sub, show (((s + j : Nat) : Int) - (s : Nat)) = (j : Nat) by omega, show (e_n 4) = e_n ((4 : Nat) : Nat) from rfl, e_n_ltN (by omega) (by omega)]
      have h24' : e_n ((s + j : Nat) : Nat) + e_n 1 = e_n ((s + (j + 1) : Nat) : Nat) := e_n_succ _
      by_cases hj : j < 4
      · obtain ⟨J', a1, a2, a4, a5, a6, a7, a8, a9⟩ := ih (j + 1) (e_u (e_u J 489 28 (e_n 10 * J 489 28 + b (s + j) - e_n 48)) 489 24 (e_n ((s + (j + 1) : Nat) : Nat))) z (by omega) (by omega) (by rw [e_u_ne (by decide), e_u_ne (by decide)]; exact h23) e_u_same (by rw [e_u_ne (by decide), e_u_ne (by decide)]; exact h26) (by
          rw [e_u_ne (by decide), e_u_same, hp]
          show _ = (if j < 4 then _ else _)
          rw [if_pos hj]) (fun k hk => by rw [e_u_na (by decide), e_u_na (by decide)]; exact hb k hk)
        refine ⟨J', ?_, TF_tr (TF_u (by omega)) (TF_tr (TF_u (by omega)) a2), a4, a5, a6, a7, a8, by rw [a9, e_u_ne (by decide), e_u_ne (by decide)]⟩
        rw [C187_187, h24, c184h hn h23 hi, e_rI_i, if_pos hlt, hbi, C187_195, if_pos hL', h24, h26, if_pos (h6.mpr hj), c184h hn h23 hi, e_rI_i, if_pos hlt, hbi, C187_230, h24, h24']
        exact a1
      · obtain ⟨J', a1, a2, a4, a5, a6, a7, a8, a9⟩ := ih (j + 1) (e_u J 489 24 (e_n ((s + (j + 1) : Nat) : Nat))) z (by omega) (by omega) (by rw [e_u_ne (by decide)]; exact h23) e_u_same (by rw [e_u_ne (by decide)]; exact h26) (by
          rw [e_u_ne (by decide), hp]
          show _ = (if j < 4 then _ else _)
          rw [if_neg hj]) (fun k hk => by rw [e_u_na (by decide)]; exact hb k hk)
        refine ⟨J', ?_, TF_tr (TF_u (by omega)) a2, a4, a5, a6, a7, a8, by rw [a9, e_u_ne (by decide)]⟩
        rw [C187_187, h24, c184h hn h23 hi, e_rI_i, if_pos hlt, hbi, C187_195, if_pos hL', h24, h26, if_neg (fun q => hj (h6.mp q)), h24']
        exact a1
    · have hr : rn isD b n (f + 1) (s + j) = s + j := by show (if s + j < n ∧ isD (b (s + j)) = true then _ else _) = _; rw [if_neg (fun h => hL h.2)]
      refine ⟨e_u (e_u J 489 25 (e_n 2)) 489 27 (e_n ((s + j : Nat) : Nat) - e_n (s : Nat)), ?_, TF_tr (TF_u (by omega)) (TF_u (by omega)), ?_, ?_, ?_, ?_, ?_, ?_⟩
      · rw [C187_187, h24, c184h hn h23 hi, e_rI_i, if_pos hlt, hbi, C187_195, if_neg (fun h => hL ((isD_e _).mpr h)), h24, h26]
      · rw [e_u_ne (by decide), e_u_ne (by decide), hr]; exact h24
      · rw [e_u_ne (by decide), e_u_same]
      · rw [e_u_ne (by decide), e_u_ne (by decide)]; exact h26
      · rw [e_u_same, hr, e_n_sub]; congr 1; omega
      · rw [e_u_ne (by decide), e_u_ne (by decide), hr, show s + j - s = j by omega]; exact hp
      · rw [e_u_ne (by decide), e_u_ne (by decide)]
end S99zf
