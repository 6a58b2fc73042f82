/-! the class cuts a word -/
section S99zj
def spl (b : Nat → Int32) (k s : Nat) : Nat → Nat → Bool
  | 0, _ => true
  | f + 1, i => if tc k i = b (s + i) then spl b k s f (i + 1) else false
def wEq (b : Nat → Int32) (k s e : Nat) : Bool := if tl k = e - s then spl b k s (tl k) 0 else false
/-- which of the words stands there: its place, or none -/
def wi (b : Nat → Int32) (s e : Nat) : Int32 := itr (fun k q => if wEq b k s e = true then e_n (k : Nat) else q) 17 0 (e_n (-1))
theorem gw_t {k : Nat} (hk : k < 17) (K : Nat → e_X) : e_gsF 40 0 (1000100 + k) K = K (1000200 + k) := by
  unfold e_gsF
  rw [if_pos ⟨rfl, rfl, by omega, by omega⟩, show 1000100 + k + 100 = 1000200 + k by omega]
theorem c106h {d n s e k : Nat} {b : Nat → Int32} {I : Nat → Nat → Int32} {z : e_Z} (hn : n ≤ 700) (hx : txa z = 2) (hk : k < 17) (hs : s ≤ e) (he : e ≤ n) (hb : ∀ k, k < n → I 2 k = b k) :
    e_E (d + 5) 106 [.ref 45, .ref (1000200 + k), .int (e_n (s : Nat)), .int (e_n (e : Nat))] (mk I z) = some (.inl (some (.int (if wEq b k s e = true then e_n 1 else e_n 0))), mk I z) := by
  have h6 := (txl_all k hk).1
  refine e_E_ret (d := d + 4) ?_
  show e_L (d + 4) 106 0 [.ref 45, .ref (1000200 + k), .int (e_n (s : Nat)), .int (e_n (e : Nat)), .null] [] (mk I z) = _
  have hsub : e_n (e : Nat) - e_n (s : Nat) = e_n ((e - s : Nat) : Nat) := by rw [e_n_sub]; congr 1; omega
  rw [C106_0, ck_t hk, c330h (d := d + 2) hk, e_rI_i, C106_4, hsub]
  have hinj : (e_n (tl k : Nat) = e_n ((e - s : Nat) : Nat)) = (tl k = e - s) := by
    rw [e_n_inj (by omega) (by omega) (by omega) (by omega)]; apply propext; omega
  unfold wEq
  by_cases hl : tl k = e - s
  · rw [if_pos (hinj.mpr hl), if_pos hl]
    have loop : ∀ f i, i + f = tl k → e_L (d + 4) 106 15 [.ref 45, .ref (1000200 + k), .int (e_n (s : Nat)), .int (e_n (e : Nat)), .int (e_n (i : Nat))] [] (mk I z) = some (.inl (some (.int (if spl b k s f i = true then e_n 1 else e_n 0))), mk I z) := by
      intro f
      induction f with
      | zero =>
        intro i hi
        rw [C106_15, ck_t hk, c330h (d := d + 2) hk, e_rI_i, C106_21, if_neg (by rw [e_n_ltN (by omega) (by omega)]; omega)]
        rfl
      | succ f ih =>
        intro i hi
        rw [C106_15, ck_t hk, c330h (d := d + 2) hk, e_rI_i, C106_21, if_pos (by rw [e_n_ltN (by omega) (by omega)]; omega), ck_t hk, c331h hk (show i < tl k by omega), e_rI_i, C106_30, hx, e_n_add, show ((s : Nat) : Int) + (i : Nat) = ((s + i : Nat) : Int) by omega, rd_N (r := 2) (show s + i < 700 by omega), hb _ (by omega), e_n_succ]
        unfold spl
        by_cases hc : tc k i = b (s + i)
        · rw [if_pos hc, if_pos hc]
          exact ih (i + 1) (by omega)
        · rw [if_neg hc, if_neg hc]
          rfl
    exact loop (tl k) 0 (by omega)
  · rw [if_neg (fun q => hl (hinj.mp q)), if_neg hl]
    rfl
theorem c105h {d n s t : Nat} {b : Nat → Int32} {I : Nat → Nat → Int32} {z : e_Z} (hn : n ≤ 700) (hx : txa z = 2) (h1 : I 45 1 = e_n (n : Nat)) (h2 : I 45 2 = e_n (t : Nat)) (ht : t < 701) (hs : s ≤ n) (hb : ∀ k, k < n → I 2 k = b k) :
    e_E (d + 6) 105 [.ref 45, .int (e_n (s : Nat))] (mk I z) = some (.inl (some (.int (e_n (rn isL b n (n - s) s : Nat)))), mk (adT I t (e_n 2) s (wi b s (rn isL b n (n - s) s))) z) := by
  have rdx : ∀ k, k < n → rd I 2 (e_n (k : Nat)) = b k := fun k hk => by
    rw [rd_N (r := 2) (show k < 700 by omega)]; exact hb k hk
  have loop : ∀ f j, n - (s + j) = f → s + j ≤ n → e_L (d + 5) 105 4 [.ref 45, .int (e_n (s : Nat)), .int (e_n ((s + j : Nat) : Nat)), .int (e_n ((s + j : Nat) : Nat)), .null] [] (mk I z) = e_L (d + 5) 105 41 [.ref 45, .int (e_n (s : Nat)), .int (e_n (rn isL b n f (s + j) : Nat)), .int (e_n (-1)), .int (e_n 0)] [] (mk I z) := by
    intro f
    induction f with
    | zero =>
      intro j hf hj
      have hr : rn isL b n 0 (s + j) = s + j := rfl
      rw [B105_4, h1, if_pos (by rw [e_cc_ge, e_n_ltN (by omega) (by omega)]; omega), B105_36, hr]
    | succ f ih =>
      intro j hf hj
      have hlt : s + j < n := by omega
      rw [B105_4, h1, if_neg (by rw [e_cc_ge, e_n_ltN (by omega) (by omega)]; omega), hx, c169 (r := 2) rfl, e_rI_i, rdx _ hlt, B105_20, c109, e_rI_i, B105_23]
      by_cases hL : isL (b (s + j)) = true
      · have hr : rn isL b n (f + 1) (s + j) = rn isL b n f (s + (j + 1)) := by show (if s + j < n ∧ isL (b (s + j)) = true then _ else _) = _; rw [if_pos ⟨hlt, hL⟩]; rfl
        rw [if_neg (by rw [e_cc_eq, tf_eq0]; exact fun q => q ((isL_e _).mp hL)), e_n_succ, hr]
        exact ih (j + 1) (by omega) (by omega)
      · have hr : rn isL b n (f + 1) (s + j) = s + j := by show (if s + j < n ∧ isL (b (s + j)) = true then _ else _) = _; rw [if_neg (fun h => hL h.2)]
        rw [if_pos (by rw [e_cc_eq, tf_eq0]; exact fun q => hL ((isL_e _).mpr q)), B105_36, hr]
  have hloop := loop (n - s) 0 rfl (by omega)
  obtain ⟨he1, he2⟩ := rn_le isL b n (n - s) s hs
  refine e_E_ret (d := d + 5) ?_
  show e_L (d + 5) 105 0 [.ref 45, .int (e_n (s : Nat)), .null, .null, .null] [] (mk I z) = _
  rw [B105_0]
  refine hloop.trans ?_
  rw [Nat.add_zero]
  generalize rn isL b n (n - s) s = e at he1 he2
  have words : ∀ f k (q : Int32), k + f = 17 → e_L (d + 5) 105 41 [.ref 45, .int (e_n (s : Nat)), .int (e_n (e : Nat)), .int q, .int (e_n (k : Nat))] [] (mk I z) = some (.inl (some (.int (e_n (e : Nat)))), mk (adT I t (e_n 2) s (itr (fun k q => if wEq b k s e = true then e_n (k : Nat) else q) f k q)) z) := by
    intro f
    induction f with
    | zero =>
      intro k q hk
      have : k = 17 := by omega
      subst this
      rw [B105_41, if_pos (by decide), c103h (d := d + 3) ht h2, e_rV_n, B105_84]
      rfl
    | succ f ih =>
      intro k q hk
      have hk17 : k < 17 := by omega
      rw [B105_41, if_neg (by rw [e_cc_ge, e_n_of, e_n_ltN (by omega) (by omega)]; omega), ck_ok (InR_n (by omega) (by omega) (by omega)), e_n_nat' (by omega), gw_t hk17, c106h hn hx hk17 he1 he2 hb, e_rI_i, B105_65]
      have : itr (fun k q => if wEq b k s e = true then e_n (k : Nat) else q) (f + 1) k q = itr (fun k q => if wEq b k s e = true then e_n (k : Nat) else q) f (k + 1) (if wEq b k s e = true then e_n (k : Nat) else q) := rfl
      rw [this]
      by_cases hw : wEq b k s e = true
      · rw [if_pos hw, if_pos hw, if_neg (by decide), B105_71, e_n_succ]
        exact ih (k + 1) _ (by omega)
      · rw [if_neg hw, if_neg hw, if_pos (by decide), B105_71, e_n_succ]
        exact ih (k + 1) _ (by omega)
  exact words 17 0 (e_n (-1)) (by decide)
end S99zj
