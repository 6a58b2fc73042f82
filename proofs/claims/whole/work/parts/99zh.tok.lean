/-! the class cuts a number -/
section S99zh
def cnv (b : Nat → Int32) (s : Nat) : Nat → Int32
  | 0 => e_n 0
  | j + 1 => if j < 4 then cnv b s j * e_n 10 + b (s + j) - e_n 48 else e_n (-1)
theorem cnv_nv (b : Nat → Int32) (s : Nat) : ∀ j, j ≤ 4 → cnv b s j = nv b s j
  | 0, _ => rfl
  | j + 1, h => by
    show (if j < 4 then cnv b s j * e_n 10 + b (s + j) - e_n 48 else e_n (-1)) = (if j < 4 then e_n 10 * nv b s j + b (s + j) - e_n 48 else nv b s j)
    rw [if_pos (by omega), if_pos (by omega), cnv_nv b s j (by omega), Int32.mul_comm]
theorem cnv_m (b : Nat → Int32) (s : Nat) {j : Nat} (h : 4 < j) : cnv b s j = e_n (-1) := by
  obtain ⟨k, rfl⟩ : ∃ k, j = k + 1 := ⟨j - 1, by omega⟩
  show (if k < 4 then cnv b s k * e_n 10 + b (s + k) - e_n 48 else e_n (-1)) = _
  rw [if_neg (by omega)]
/-- a token added -/
def adT (I : Nat → Nat → Int32) (t : Nat) (k : Int32) (s : Nat) (v : Int32) : Nat → Nat → Int32 := e_u (e_u (e_u (e_u I 47 t k) 48 t (e_n (s : Nat))) 49 t v) 45 2 (e_n ((t + 1 : Nat) : Nat))
theorem c103h {d t s : Nat} {I : Nat → Nat → Int32} {z : e_Z} {k v : Int32} (ht : t < 701) (h : I 45 2 = e_n (t : Nat)) : e_E (d + 2) 103 [.ref 45, .int k, .int (e_n (s : Nat)), .int v] (mk I z) = some (.inl none, mk (adT I t k s v) z) := by
  rw [c103, h, wr_N (r := 47) (k := t) ht, wr_N (r := 48) (k := t) ht, wr_N (r := 49) (k := t) ht, e_n_succ]
  rfl
theorem c107h {d n s t : Nat} {b : Nat → Int32} {I : Nat → Nat → Int32} {z : e_Z} (hn : n ≤ 700) (hx : txa z = 2) (h1 : I 45 1 = e_n (n : Nat)) (h2 : I 45 2 = e_n (t : Nat)) (ht : t < 701) (hs : s ≤ n) (hb : ∀ k, k < n → I 2 k = b k) :
    e_E (d + 3) 107 [.ref 45, .int (e_n (s : Nat))] (mk I z) = some (.inl (some (.int (e_n (rn isD b n (n - s) s : Nat)))), mk (adT I t (e_n 3) s (cnv b s (rn isD b n (n - s) s - s))) z) := by
  have rdx : ∀ k, k < n → rd I (txa z) (e_n (k : Nat)) = b k := fun k hk => by
    rw [hx, rd_N (r := 2) (show k < 700 by omega)]; exact hb k hk
  have loop : ∀ f j, n - (s + j) = f → s + j ≤ n → e_L (d + 2) 107 7 [.ref 45, .int (e_n (s : Nat)), .int (e_n ((s + j : Nat) : Nat)), .int (cnv b s j), .int (e_n ((s + j : Nat) : Nat))] [] (mk I z) = some (.inl (some (.int (e_n (rn isD b n f (s + j) : Nat)))), mk (adT I t (e_n 3) s (cnv b s (rn isD b n f (s + j) - s))) z) := by
    intro f
    induction f with
    | zero =>
      intro j hf hj
      have hr : rn isD b n 0 (s + j) = s + j := rfl
      rw [C107_7, h1, if_neg (by rw [e_n_ltN (by omega) (by omega)]; omega), c103h ht h2, e_rV_n, C107_79, hr, show s + j - s = j by omega]
    | succ f ih =>
      intro j hf hj
      have hlt : s + j < n := by omega
      rw [C107_7, h1, if_pos (by rw [e_n_ltN (by omega) (by omega)]; exact hlt), rdx _ hlt]
      by_cases hD : isD (b (s + j)) = true
      · have hr : rn isD b n (f + 1) (s + j) = rn isD b n f (s + (j + 1)) := by show (if s + j < n ∧ isD (b (s + j)) = true then _ else _) = _; rw [if_pos ⟨hlt, hD⟩]; rfl
        have h4 : (e_n ((s + j : Nat) : Nat) - e_n (s : Nat) < e_n 4) = (j < 4) := by rw [e_n_sub, show (((s + j : Nat) : Int) - (s : Nat)) = (j : Nat) by omega, show (e_n 4) = e_n ((4 : Nat) : Nat) from rfl, e_n_ltN (by omega) (by omega)]
        have hv : (if e_n ((s + j : Nat) : Nat) - e_n (s : Nat) < e_n 4 then cnv b s j * e_n 10 + b (s + j) - e_n 48 else e_n (-1)) = cnv b s (j + 1) := by
          show _ = (if j < 4 then cnv b s j * e_n 10 + b (s + j) - e_n 48 else e_n (-1))
          by_cases hj4 : j < 4
          · rw [if_pos (h4.mpr hj4), if_pos hj4]
          · rw [if_neg (fun q => hj4 (h4.mp q)), if_neg hj4]
        rw [if_pos ((isD_e _).mp hD), hv, e_n_succ, hr]
        exact ih (j + 1) (by omega) (by omega)
      · have hr : rn isD b n (f + 1) (s + j) = s + j := by show (if s + j < n ∧ isD (b (s + j)) = true then _ else _) = _; rw [if_neg (fun h => hD h.2)]
        rw [if_neg (fun h => hD ((isD_e _).mpr h)), c103h ht h2, e_rV_n, C107_79, hr, show s + j - s = j by omega]
  refine e_E_ret (d := d + 2) ?_
  show e_L (d + 2) 107 0 [.ref 45, .int (e_n (s : Nat)), .null, .null, .null] [] (mk I z) = _
  rw [C107_0]
  exact loop (n - s) 0 rfl (by omega)
end S99zh
