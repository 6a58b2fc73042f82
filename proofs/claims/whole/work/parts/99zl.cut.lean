/-! the class's tokens -/
section S99zl
/-- where the next token stands -/
def nxP (b : Nat → Int32) (n p : Nat) : Nat := skB b n (tkE b n p)
def ps (b : Nat → Int32) (n : Nat) : Nat → Nat
  | 0 => skB b n 0
  | t + 1 => nxP b n (ps b n t)
theorem ps_n (b : Nat → Int32) (n : Nat) : ∀ t, ps b n t ≤ n
  | 0 => (skB_n (Nat.zero_le n)).2
  | t + 1 => (skB_n (tkE_n (ps_n b n t)).2).2
theorem nxP_n {b : Nat → Int32} {n : Nat} : nxP b n n = n := by
  have h : tkE b n n = n := by unfold tkE; rw [if_pos (Nat.le_refl n)]
  unfold nxP
  rw [h]
  exact Nat.le_antisymm (skB_n (Nat.le_refl n)).2 (skB_n (Nat.le_refl n)).1
theorem e_u_id {J : Nat → Nat → Int32} {a k : Nat} {v : Int32} (h : J a k = v) : e_u J a k v = J := by
  funext x y
  unfold e_u
  by_cases hx : x = a
  · rw [if_pos hx]
    by_cases hy : y = k
    · rw [if_pos hy, hx, hy, h]
    · rw [if_neg hy, hx]
  · rw [if_neg hx]
def CT (I : Nat → Nat → Int32) (b : Nat → Int32) (n t : Nat) : Prop := ∀ u, u < t → I 47 u = ckC b n (ps b n u) ∧ I 48 u = e_n (ps b n u : Nat) ∧ I 49 u = cvC b n (ps b n u)
def TK (J : Nat → Nat → Int32) (b : Nat → Int32) (n p : Nat) : Prop :=
  ∃ T c, c ≤ T ∧ T ≤ 700 ∧ ps b n T = n ∧ ps b n c = p ∧ J 45 2 = e_n ((T + 1 : Nat) : Nat) ∧ CT J b n (T + 1) ∧ J 45 6 = e_n (c : Nat) ∧ J 45 7 = ckC b n p ∧ J 45 8 = e_n (p : Nat) ∧ J 45 9 = cvC b n p
theorem stp_st {J : Nat → Nat → Int32} {b : Nat → Int32} {n T c : Nat} {z : e_Z} {d : Nat} {x6 : Int32} (hc : c ≤ T) (hT : T ≤ 700) (hTn : ps b n T = n) (h2 : J 45 2 = e_n ((T + 1 : Nat) : Nat)) (hA : CT J b n (T + 1)) (h6 : (if J 45 6 < J 45 2 - e_n 1 then e_u J 45 6 (J 45 6 + e_n 1) else J) = e_u J 45 6 (e_n (c : Nat))) :
    ∃ J', e_E (d + 2) 112 [.ref 45] (mk J z) = some (.inl none, mk J' z) ∧ TK J' b n (ps b n c) ∧ (∀ r, r ≠ 45 → J' r = J r) ∧ ∀ k, k < 6 → J' 45 k = J 45 k := by
  obtain ⟨a1, a2, a3⟩ := hA c (by omega)
  have r47 : rd (e_u J 45 6 (e_n (c : Nat))) 47 (e_n (c : Nat)) = ckC b n (ps b n c) := by rw [rd_N (r := 47) (show c < 701 by omega), e_u_na (by decide)]; exact a1
  have r48 : rd (e_u J 45 6 (e_n (c : Nat))) 48 (e_n (c : Nat)) = e_n (ps b n c : Nat) := by rw [rd_N (r := 48) (show c < 701 by omega), e_u_na (by decide)]; exact a2
  have r49 : rd (e_u J 45 6 (e_n (c : Nat))) 49 (e_n (c : Nat)) = cvC b n (ps b n c) := by rw [rd_N (r := 49) (show c < 701 by omega), e_u_na (by decide)]; exact a3
  rw [c112, h6, e_u_same, r47, r48, r49]
  refine ⟨_, rfl, ⟨T, c, hc, hT, hTn, rfl, ?_, ?_, ?_, ?_, ?_, ?_⟩, ?_, ?_⟩
  · rw [e_u_ne (by decide), e_u_ne (by decide), e_u_ne (by decide), e_u_ne (by decide)]; exact h2
  · intro u hu
    have := hA u hu
    simp (disch := decide) only [e_u_na]
    exact this
  · rw [e_u_ne (by decide), e_u_ne (by decide), e_u_ne (by decide), e_u_same]
  · rw [e_u_ne (by decide), e_u_ne (by decide), e_u_same]
  · rw [e_u_ne (by decide), e_u_same]
  · rw [e_u_same]
  · intro r hr
    rw [e_u_na hr, e_u_na hr, e_u_na hr, e_u_na hr]
  · intro k hk
    rw [e_u_ne (by omega), e_u_ne (by omega), e_u_ne (by omega), e_u_ne (by omega)]
theorem c112h {J : Nat → Nat → Int32} {b : Nat → Int32} {n p : Nat} {z : e_Z} {d : Nat} (h : TK J b n p) :
    ∃ J', e_E (d + 2) 112 [.ref 45] (mk J z) = some (.inl none, mk J' z) ∧ TK J' b n (nxP b n p) ∧ (∀ r, r ≠ 45 → J' r = J r) ∧ ∀ k, k < 6 → J' 45 k = J 45 k := by
  obtain ⟨T, c, hc, hT, hTn, hp, h2, hA, h6, h7, h8, h9⟩ := h
  have hs : J 45 2 - e_n 1 = e_n (T : Nat) := by rw [h2, e_n_sub]; congr 1; omega
  by_cases hcT : c < T
  · have hx : ps b n (c + 1) = nxP b n p := by show nxP b n (ps b n c) = _; rw [hp]
    rw [← hx]
    refine stp_st (x6 := 0) (T := T) (c := c + 1) (by omega) hT hTn h2 hA ?_
    rw [hs, h6, if_pos (by rw [e_n_ltN (by omega) (by omega)]; exact hcT), e_n_succ]
  · have hcT' : c = T := by omega
    have hpn : p = n := by rw [← hp, hcT', hTn]
    have hx : nxP b n p = ps b n c := by rw [hp, hpn]; exact nxP_n
    rw [hx]
    refine stp_st (x6 := 0) (T := T) (c := c) (by omega) hT hTn h2 hA ?_
    rw [hs, h6, if_neg (by rw [e_n_ltN (by omega) (by omega)]; exact hcT)]
    exact (e_u_id h6).symm
end S99zl
