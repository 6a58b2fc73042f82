/-! the class cuts one token -/
section S99zk
def ckC (b : Nat → Int32) (n s : Nat) : Int32 := if n ≤ s then e_n 0 else if isL (b s) = true then e_n 2 else if isD (b s) = true then e_n 3 else if isS (b s) = true then e_n 4 else e_n 1
def cvC (b : Nat → Int32) (n s : Nat) : Int32 := if n ≤ s then e_n 0 else if isL (b s) = true then wi b s (tkE b n s) else if isD (b s) = true then cnv b s (tkE b n s - s) else b s
theorem v111_s (I : Nat → Nat → Int32) (c : Int32) : (v111 I c = 0) ↔ ¬ isS c = true := by
  by_cases hS : isS c = true
  · have h9 := of_decide_eq_true hS
    refine ⟨fun h => ?_, fun h => absurd hS h⟩
    exfalso
    revert h
    unfold v111
    rcases h9 with h | h | h | h | h | h | h | h | h <;> subst h <;> decide
  · refine ⟨fun _ => hS, fun _ => ?_⟩
    have hn : ¬ (c = e_n 59 ∨ c = e_n 40 ∨ c = e_n 41 ∨ c = e_n 43 ∨ c = e_n 45 ∨ c = e_n 42 ∨ c = e_n 47 ∨ c = e_n 60 ∨ c = e_n 61) := fun h => hS (decide_eq_true h)
    simp only [not_or] at hn
    obtain ⟨h1, h2, h3, h4, h5, h6, h7, h8, h9⟩ := hn
    have k1 : ¬ c = 59 := h1
    have k2 : ¬ c = 40 := h2
    have k3 : ¬ c = 41 := h3
    have k4 : ¬ c = 43 := h4
    have k5 : ¬ c = 45 := h5
    have k6 : ¬ c = 42 := h6
    have k7 : ¬ c = 47 := h7
    have k8 : ¬ c = 60 := h8
    have k9 : ¬ c = 61 := h9
    unfold v111
    rw [tf_eq0]
    simp [k1, k2, k3, k4, k5, k6, k7, k8, k9]
theorem c104h {d n s t : Nat} {b : Nat → Int32} {I : Nat → Nat → Int32} {z : e_Z} (hn : n ≤ 700) (hx : txa z = 2) (h1 : I 45 1 = e_n (n : Nat)) (h2 : I 45 2 = e_n (t : Nat)) (ht : t < 701) (hs : s < n) (hb : ∀ k, k < n → I 2 k = b k) :
    e_E (d + 7) 104 [.ref 45, .int (e_n (s : Nat))] (mk I z) = some (.inl (some (.int (e_n (tkE b n s : Nat)))), mk (adT I t (ckC b n s) s (cvC b n s)) z) := by
  have rdx : rd I (txa z) (e_n (s : Nat)) = b s := by
    rw [hx, rd_N (r := 2) (show s < 700 by omega)]; exact hb s hs
  have hle : ¬ n ≤ s := by omega
  refine e_E_ret (d := d + 6) ?_
  show e_L (d + 6) 104 0 [.ref 45, .int (e_n (s : Nat)), .null] [] (mk I z) = _
  rw [C104_0, rdx]
  unfold ckC cvC
  by_cases hL : isL (b s) = true
  · have eE : tkE b n s = rn isL b n (n - s) s := by unfold tkE; rw [if_neg hle, if_pos hL]
    rw [if_pos ((isL_e _).mp hL), c105h hn hx h1 h2 ht (by omega) hb, e_rI_i, C104_21, if_neg hle, if_neg hle, if_pos hL, if_pos hL, eE]
  · rw [if_neg (fun h => hL ((isL_e _).mpr h))]
    by_cases hD : isD (b s) = true
    · have eE : tkE b n s = rn isD b n (n - s) s := by unfold tkE; rw [if_neg hle, if_neg hL, if_pos hD]
      rw [if_pos ((isD_e _).mp hD), c107h (d := d + 3) hn hx h1 h2 ht (by omega) hb, e_rI_i, C104_34, if_neg hle, if_neg hle, if_neg hL, if_neg hL, if_pos hD, if_pos hD, eE]
    · have eE : tkE b n s = s + 1 := by unfold tkE; rw [if_neg hle, if_neg hL, if_neg hD]
      have hk : (if v111 I (b s) = 0 then e_n 1 else e_n 4) = (if isS (b s) = true then e_n 4 else e_n 1) := by
        by_cases hS : isS (b s) = true
        · rw [if_neg (fun h => (v111_s I (b s)).mp h hS), if_pos hS]
        · rw [if_pos ((v111_s I (b s)).mpr hS), if_neg hS]
      rw [if_neg (fun h => hD ((isD_e _).mpr h)), hk, c103h (d := d + 4) ht h2, e_rV_n, C104_53, if_neg hle, if_neg hle, if_neg hL, if_neg hL, if_neg hD, if_neg hD, eE, e_n_succ]
end S99zk
