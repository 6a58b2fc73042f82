/-! tokens: what stands at a place of the tape; the reference reads one -/
section S99ze
def isB (c : Int32) : Bool := decide (c = e_n 32) || decide (c = e_n 10)
def isL (c : Int32) : Bool := decide (¬ c < e_n 97 ∧ ¬ e_n 122 < c)
def isD (c : Int32) : Bool := decide (¬ c < e_n 48 ∧ ¬ e_n 57 < c)
def isS (c : Int32) : Bool := decide (c = e_n 59 ∨ c = e_n 40 ∨ c = e_n 41 ∨ c = e_n 43 ∨ c = e_n 45 ∨ c = e_n 42 ∨ c = e_n 47 ∨ c = e_n 60 ∨ c = e_n 61)
/-- on while p holds -/
def rn (p : Int32 → Bool) (b : Nat → Int32) (n : Nat) : Nat → Nat → Nat
  | 0, i => i
  | f + 1, i => if i < n ∧ p (b i) = true then rn p b n f (i + 1) else i
theorem rn_le (p : Int32 → Bool) (b : Nat → Int32) (n : Nat) : ∀ f i, i ≤ n → i ≤ rn p b n f i ∧ rn p b n f i ≤ n
  | 0, i, h => ⟨Nat.le_refl _, h⟩
  | f + 1, i, h => by
    unfold rn
    split
    · rename_i hc
      have := rn_le p b n f (i + 1) (by omega)
      omega
    · omega
def skB (b : Nat → Int32) (n i : Nat) : Nat := rn isB b n (n - i) i
def tkK (b : Nat → Int32) (n s : Nat) : Nat := if n ≤ s then 0 else if isL (b s) = true then 1 else if isD (b s) = true then 2 else if isS (b s) = true then 3 else 4
def tkE (b : Nat → Int32) (n s : Nat) : Nat := if n ≤ s then s else if isL (b s) = true then rn isL b n (n - s) s else if isD (b s) = true then rn isD b n (n - s) s else s + 1
/-- of the letters of a word the first six, of the digits of a number the first four -/
def pk (b : Nat → Int32) (s : Nat) : Nat → Int64
  | 0 => Int64.ofNat 0
  | j + 1 => if j < 6 then e_lsh (pk b s j) (e_n 5) ||| (b (s + j) - e_n 96).toInt64 else pk b s j
def nv (b : Nat → Int32) (s : Nat) : Nat → Int32
  | 0 => e_n 0
  | j + 1 => if j < 4 then e_n 10 * nv b s j + b (s + j) - e_n 48 else nv b s j
def TF (J J' : Nat → Nat → Int32) : Prop := (∀ r, r ≠ 489 → J' r = J r) ∧ ∀ k, (k < 24 ∨ 29 < k) → J' 489 k = J 489 k
theorem TF_u {J : Nat → Nat → Int32} {k : Nat} {v : Int32} (h : 24 ≤ k ∧ k ≤ 29) : TF J (e_u J 489 k v) := ⟨fun r h1 => e_u_na h1, fun j hj => e_u_ne (by omega)⟩
theorem TF_tr {a b c : Nat → Nat → Int32} (h : TF a b) (g : TF b c) : TF a c := ⟨fun r h1 => (g.1 r h1).trans (h.1 r h1), fun k h1 => (g.2 k h1).trans (h.2 k h1)⟩
theorem c184h {d n i : Nat} {J : Nat → Nat → Int32} {z : e_Z} (hn : n ≤ 700) (h23 : J 489 23 = e_n (n : Nat)) (hi : i ≤ n) : e_E (d + 1) 184 [.ref 489, .int (e_n (i : Nat))] (mk J z) = some (.inl (some (.int (if i < n then J 500 i else e_n 0))), mk J z) := by
  have hlt : (e_n (i : Nat) < J 489 23) = (i < n) := by rw [h23, e_n_ltN (by omega) (by omega)]
  rw [c184 (fun h => by rw [hlt] at h; exact InR_n (by omega) (by omega) (by omega))]
  unfold v184
  rw [e_n_nat' (by omega)]
  by_cases h : i < n
  · rw [if_pos (hlt.mpr h), if_pos h]
  · rw [if_neg (fun q => h (hlt.mp q)), if_neg h]
/-- over the blanks -/
theorem c187s {d n : Nat} {b : Nat → Int32} (hn : n ≤ 700) : ∀ (f i : Nat) (J : Nat → Nat → Int32) (z : e_Z), n - i = f → i ≤ n → J 489 23 = e_n (n : Nat) → J 489 24 = e_n (i : Nat) → (∀ k, k < n → J 500 k = b k) →
    ∃ J', e_L (d + 1) 187 0 [.ref 489, .null] [] (mk J z) = e_L (d + 1) 187 76 [.ref 489, .null] [.int (if rn isB b n f i < n then b (rn isB b n f i) else e_n 0)] (mk J' (e_u z.1 489 30 (Int64.ofNat 0), z.2)) ∧ TF J J' ∧ J' 489 24 = e_n (rn isB b n f i : Nat) ∧ J' 489 26 = e_n (rn isB b n f i : Nat) ∧ J' 489 28 = e_n 0 := by
  intro f
  induction f with
  | zero =>
    intro i J z hf hi h23 h24 hb
    have : i = n := by omega
    subst this
    refine ⟨e_u (e_u J 489 26 (e_n (i : Nat))) 489 28 (e_n 0), ?_, TF_tr (TF_u (by omega)) (TF_u (by omega)), ?_, ?_, e_u_same⟩
    · rw [C187_0, h24, h23, if_neg (by rw [e_n_ltN (by omega) (by omega)]; omega), c184h hn (by rw [e_u_ne (by decide), e_u_ne (by decide)]; exact h23) (Nat.le_refl _), e_rI_i]
      show _ = e_L (d + 1) 187 76 [.ref 489, .null] [.int (if i < i then b i else e_n 0)] _
      rw [if_neg (Nat.lt_irrefl i), if_neg (Nat.lt_irrefl i)]
    · rw [e_u_ne (by decide), e_u_ne (by decide)]; exact h24
    · rw [e_u_ne (by decide), e_u_same]; rfl
  | succ f ih =>
    intro i J z hf hi h23 h24 hb
    have hlt : i < n := by omega
    have hbi := hb i hlt
    have on : isB (b i) = true → ∃ J', e_L (d + 1) 187 0 [.ref 489, .null] [] (mk (e_u J 489 24 (e_n (i : Nat) + e_n 1)) z) = e_L (d + 1) 187 76 [.ref 489, .null] [.int (if rn isB b n (f + 1) i < n then b (rn isB b n (f + 1) i) else e_n 0)] (mk J' (e_u z.1 489 30 (Int64.ofNat 0), z.2)) ∧ TF J J' ∧ J' 489 24 = e_n (rn isB b n (f + 1) i : Nat) ∧ J' 489 26 = e_n (rn isB b n (f + 1) i : Nat) ∧ J' 489 28 = e_n 0 := by
      intro hB
      have hr : rn isB b n (f + 1) i = rn isB b n f (i + 1) := by show (if i < n ∧ isB (b i) = true then _ else _) = _; rw [if_pos ⟨hlt, hB⟩]
      obtain ⟨J', e1, e2, e3, e4, e5⟩ := ih (i + 1) (e_u J 489 24 (e_n ((i + 1 : Nat) : Nat))) z (by omega) (by omega) (by rw [e_u_ne (by decide)]; exact h23) e_u_same (fun k hk => by rw [e_u_na (by decide)]; exact hb k hk)
      rw [hr]
      exact ⟨J', by rw [e_n_succ]; exact e1, TF_tr (TF_u (by omega)) e2, e3, e4, e5⟩
    rw [C187_0, h24, h23, if_pos (by rw [e_n_ltN (by omega) (by omega)]; exact hlt), c184h hn h23 hi, e_rI_i, if_pos hlt, hbi, C187_19, h24]
    by_cases h32 : b i = e_n 32
    · rw [if_pos h32]
      exact on (by unfold isB; rw [h32]; rfl)
    · rw [if_neg h32, c184h hn h23 hi, e_rI_i, if_pos hlt, hbi, C187_32, h24]
      by_cases h10 : b i = e_n 10
      · rw [if_pos h10]
        exact on (by unfold isB; rw [h10]; rfl)
      · have hB : ¬ isB (b i) = true := by
          unfold isB
          rw [Bool.or_eq_true, decide_eq_true_eq, decide_eq_true_eq]
          exact fun h => h.elim h32 h10
        have hr : rn isB b n (f + 1) i = i := by show (if i < n ∧ isB (b i) = true then _ else _) = _; rw [if_neg (fun h => hB h.2)]
        rw [hr, if_neg h10]
        refine ⟨e_u (e_u J 489 26 (e_n (i : Nat))) 489 28 (e_n 0), ?_, TF_tr (TF_u (by omega)) (TF_u (by omega)), ?_, ?_, e_u_same⟩
        · rw [c184h hn (by rw [e_u_ne (by decide), e_u_ne (by decide)]; exact h23) hi, e_rI_i, if_pos hlt, if_pos hlt, e_u_na (by decide), e_u_na (by decide), hbi]
        · rw [e_u_ne (by decide), e_u_ne (by decide)]; exact h24
        · rw [e_u_ne (by decide), e_u_same]
end S99ze
