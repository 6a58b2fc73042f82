/-! the class reads a rule: small steps -/
section S99zt
def CS (z : e_Z) (J : Nat → Nat → Int32) (b : Nat → Int32) (n : Nat) (cs : List Int32) (p : Nat) : Prop := TK J b n p ∧ J 44 2 = e_n 0 ∧ J (bd z.2.1.2.1 + 8) 1 = e_n (cs.length : Nat) ∧ (∀ j, j < cs.length → J (bd z.2.1.2.1 + 9) j = cs.getD j 0) ∧ J 44 3 = e_n (-1)
def CF (J : Nat → Nat → Int32) (f q : Nat) : Prop := J 44 2 = e_n (f : Nat) ∧ J 44 3 = e_n (q : Nat) ∧ 1 ≤ f ∧ f ≤ 5
def CFr (z : e_Z) (I J : Nat → Nat → Int32) : Prop := ∀ r, r ≠ 44 → r ≠ 45 → r ≠ bd z.2.1.2.1 + 8 → r ≠ bd z.2.1.2.1 + 9 → J r = I r
def CO (z : e_Z) (J : Nat → Nat → Int32) (b : Nat → Int32) (n : Nat) (cs : List Int32) (r : YR) : Prop := match r with
  | .inl q => CS z J b n (cs ++ q.2) q.1
  | .inr e => CF J e.1 e.2
def CX (z : e_Z) (b : Nat → Int32) (n : Nat) (E : e_S → e_X) (X : Nat → YR) : Prop := ∀ J cs p, CS z J b n cs p → cs.length ≤ p → p ≤ n → ∃ J', E (mk J z) = some (.inl none, mk J' z) ∧ CO z J' b n cs (X p) ∧ CFr z J J'
theorem bdr_c (z : e_Z) : bd z.2.1.2.1 = 4 ∨ bd z.2.1.2.1 = 24 := B2_bd z.2.1.2.1
theorem CFr_rf {z : e_Z} {I : Nat → Nat → Int32} : CFr z I I := fun _ _ _ _ _ => rfl
theorem CFr_tr {z : e_Z} {a b c : Nat → Nat → Int32} (h : CFr z a b) (g : CFr z b c) : CFr z a c := fun r h1 h2 h3 h4 => (g r h1 h2 h3 h4).trans (h r h1 h2 h3 h4)
theorem CF_ne {J : Nat → Nat → Int32} {f q : Nat} (h : CF J f q) : ¬ J 44 2 = 0 := by
  obtain ⟨h1, -, h2, h3⟩ := h
  rw [h1, show (0 : Int32) = e_n ((0 : Nat) : Nat) from rfl, e_n_inj (by omega) (by omega) (by omega) (by omega)]
  omega
theorem CS_0 {z : e_Z} {J : Nat → Nat → Int32} {b : Nat → Int32} {n p : Nat} {cs : List Int32} (h : CS z J b n cs p) : J 44 2 = 0 := h.2.1
theorem CS_k {z : e_Z} {J : Nat → Nat → Int32} {b : Nat → Int32} {n p : Nat} {cs : List Int32} (h : CS z J b n cs p) : J 45 7 = ckC b n p ∧ J 45 8 = e_n (p : Nat) ∧ J 45 9 = cvC b n p := by
  obtain ⟨⟨T, c, h1, h2, h3, h4, h5, h6, h7, h8, h9, h10⟩, -⟩ := h
  exact ⟨h8, h9, h10⟩
theorem CS_s {z : e_Z} {J : Nat → Nat → Int32} {b : Nat → Int32} {n p : Nat} {cs : List Int32} {c : Int32} (h : CS z J b n cs p) : (J 45 7 = e_n 4 ∧ J 45 9 = c) ↔ Ysg b n p c := by
  obtain ⟨h1, -, h2⟩ := CS_k h
  rw [h1, h2]
  exact ck_S
theorem cs_step {d : Nat} {z : e_Z} {J : Nat → Nat → Int32} {b : Nat → Int32} {n p : Nat} {cs : List Int32} (h : CS z J b n cs p) : ∃ J', e_E (d + 2) 112 [.ref 45] (mk J z) = some (.inl none, mk J' z) ∧ CS z J' b n cs (nxP b n p) ∧ CFr z J J' := by
  obtain ⟨J', e1, e2, e3, e4⟩ := c112h (d := d) (z := z) h.1
  have hb := bdr_c z
  refine ⟨J', e1, ⟨e2, by rw [e3 44 (by decide)]; exact h.2.1, by rw [e3 _ (by omega)]; exact h.2.2.1, fun j hj => by rw [e3 _ (by omega)]; exact h.2.2.2.1 j hj, by rw [e3 44 (by decide)]; exact h.2.2.2.2⟩, fun r h1 h2 h3 h4 => e3 r h2⟩
theorem cs_fail {d f : Nat} {x : Int32} {z : e_Z} {J : Nat → Nat → Int32} {b : Nat → Int32} {n p : Nat} {cs : List Int32} (hx : x = e_n (f : Nat)) (h : CS z J b n cs p) (hf : 1 ≤ f) (hf5 : f ≤ 5) : ∃ J', e_E (d + 1) 61 [.ref 44, .int x] (mk J z) = some (.inl none, mk J' z) ∧ CF J' f p ∧ CFr z J J' := by
  subst hx
  refine ⟨e_u (e_u J 44 2 (e_n (f : Nat))) 44 3 (J 45 8), ?_, ⟨?_, ?_, hf, hf5⟩, fun r h1 h2 h3 h4 => ?_⟩
  · rw [c61, if_pos (CS_0 h)]
  · rw [e_u_ne (by decide), e_u_same]
  · rw [e_u_same]; exact (CS_k h).2.1
  · rw [e_u_na h1, e_u_na h1]
theorem cs_add {d : Nat} {z : e_Z} {J : Nat → Nat → Int32} {b : Nat → Int32} {n p : Nat} {cs : List Int32} {c : Int32} (h : CS z J b n cs p) (hl : cs.length < 700) : ∃ J', e_E (d + 2) 89 [.ref (bd z.2.1.2.1 + 8), .int c] (mk J z) = some (.inl none, mk J' z) ∧ CS z J' b n (cs ++ [c]) p ∧ CFr z J J' := by
  have hb := bdr_c z
  obtain ⟨⟨T, k, h1, h2, h3, h4, h5, h6, h7, h8, h9, h10⟩, h11, h12, h13, h14⟩ := h
  have hln : ln (bd z.2.1.2.1 + 9) = 700 := ln_b9 (B2_bd _)
  refine ⟨e_u (e_u J (bd z.2.1.2.1 + 9) cs.length c) (bd z.2.1.2.1 + 8) 1 (e_n ((cs.length + 1 : Nat) : Nat)), ?_, ⟨⟨T, k, h1, h2, h3, h4, ?_, ?_, ?_, ?_, ?_, ?_⟩, ?_, ?_, ?_, ?_⟩, fun r r1 r2 r3 r4 => ?_⟩
  · rw [c89 (B2_bd _), h12, wr_N (by omega), e_n_succ]
  · rw [e_u_na (by omega), e_u_na (by omega)]; exact h5
  · intro u hu
    rw [e_u_na (by omega), e_u_na (by omega), e_u_na (by omega), e_u_na (by omega), e_u_na (by omega), e_u_na (by omega)]
    exact h6 u hu
  · rw [e_u_na (by omega), e_u_na (by omega)]; exact h7
  · rw [e_u_na (by omega), e_u_na (by omega)]; exact h8
  · rw [e_u_na (by omega), e_u_na (by omega)]; exact h9
  · rw [e_u_na (by omega), e_u_na (by omega)]; exact h10
  · rw [e_u_na (by omega), e_u_na (by omega)]; exact h11
  · rw [e_u_same]; simp
  · intro j hj
    rw [e_u_na (by omega)]
    by_cases hjl : j = cs.length
    · subst hjl
      rw [e_u_same]
      simp
    · have hj2 : j < cs.length := by simp at hj; omega
      rw [e_u_ne hjl, h13 j hj2]
      simp [List.getElem?_append_left hj2]
  · rw [e_u_na (by omega), e_u_na (by omega)]; exact h14
  · rw [e_u_na r3, e_u_na r4]
theorem cf_add {d f q : Nat} {z : e_Z} {J : Nat → Nat → Int32} {c : Int32} (h : CF J f q) : ∃ J', e_E (d + 2) 89 [.ref (bd z.2.1.2.1 + 8), .int c] (mk J z) = some (.inl none, mk J' z) ∧ CF J' f q ∧ CFr z J J' := by
  have hb := bdr_c z
  refine ⟨_, c89 (B2_bd _), ⟨?_, ?_, h.2.2⟩, fun r r1 r2 r3 r4 => ?_⟩
  · rw [e_u_na (by omega), wr_na (by omega)]; exact h.1
  · rw [e_u_na (by omega), wr_na (by omega)]; exact h.2.1
  · rw [e_u_na r3, wr_na r4]
def Ywr (x : Int32) : Nat := if x = e_n (-1) then 0 else 1000100 + cw x.toNatClampNeg
theorem Ywr_k {k : Nat} (hk : k < 17) : Ywr (e_n (k : Nat)) = 1000100 + cw k := by
  unfold Ywr
  rw [if_neg (by rw [e_n_inj (by omega) (by omega) (by omega) (by omega)]; omega), e_n_nat' (by omega)]
theorem Yw_v (b : Nat → Int32) (n p : Nat) : (∃ k, k < 17 ∧ Yw b n p = e_n (k : Nat)) ∨ Yw b n p = e_n (-1) := by
  by_cases h : tkK b n p = 1
  · rcases Yw_w h with ⟨k, h1, h2, -⟩ | ⟨h1, -⟩
    · exact Or.inl ⟨k, h1, h2⟩
    · exact Or.inr h1
  · exact Or.inr (Yw_n h)
theorem c114h {d : Nat} {z : e_Z} {J : Nat → Nat → Int32} {b : Nat → Int32} {n p : Nat} {cs : List Int32} (h : CS z J b n cs p) : e_E (d + 1) 114 [.ref 45] (mk J z) = some (.inl (some (.ref (Ywr (Yw b n p)))), mk J z) := by
  obtain ⟨h1, -, h2⟩ := CS_k h
  refine e_E_ret (d := d) ?_
  show e_L d 114 0 [.ref 45] [] (mk J z) = _
  by_cases k1 : tkK b n p = 1
  · have h7 : J 45 7 = e_n 2 := h1.trans (ck_2.mpr k1)
    have h9 : J 45 9 = wi b p (tkE b n p) := h2.trans (cv_1 k1)
    rcases Yw_w k1 with ⟨k, hk, e1, e2, -⟩ | ⟨e1, e2⟩
    · have hc := (rl_all k hk).2.2.2.1
      have h9' : J 45 9 = e_n (cw k : Nat) := h9.trans e2
      rw [C114_0 (fun _ _ _ => by rw [h9']; exact InR_n (by omega) (by omega) (by omega)), if_pos h7, h9', if_neg (by rw [show (0 : Int32) = e_n ((0 : Nat) : Nat) from rfl, e_n_ltN (by omega) (by omega)]; omega), if_pos (by rw [e_n_of, e_n_ltN (by omega) (by omega)]; exact hc), e_n_nat' (by omega), e1, Ywr_k hk]
    · have h9' : J 45 9 = e_n (-1) := h9.trans e2
      have hlt : J 45 9 < 0 := by rw [h9']; decide
      rw [C114_0 (fun _ q => absurd hlt q), if_pos h7, if_pos hlt, e1]
      rfl
  · have h7 : ¬ J 45 7 = e_n 2 := fun q => k1 (ck_2.mp (h1.symm.trans q))
    rw [C114_0 (fun q => absurd q h7), if_neg h7, Yw_n k1]
    rfl
theorem e_ac_w {α : Type} {x y : Nat} {K : Bool → Option α} (hx : x = 0 ∨ (1000100 ≤ x ∧ x < 1000117)) (hy : y = 0 ∨ (1000100 ≤ y ∧ y < 1000117)) : e_ac x y K = K (decide (x = y)) := if_pos ⟨hx, hy⟩
theorem Ywr_in (b : Nat → Int32) (n p : Nat) : Ywr (Yw b n p) = 0 ∨ (1000100 ≤ Ywr (Yw b n p) ∧ Ywr (Yw b n p) < 1000117) := by
  rcases Yw_v b n p with ⟨k, hk, e⟩ | e
  · rw [e, Ywr_k hk]
    have := (rl_all k hk).2.2.2.1
    exact Or.inr ⟨by omega, by omega⟩
  · rw [e]; exact Or.inl rfl
theorem Ywr_eq {b : Nat → Int32} {n p k : Nat} (hk : k < 17) : (Ywr (Yw b n p) = 1000100 + cw k) ↔ Yw b n p = e_n (k : Nat) := by
  constructor
  · intro h
    rcases Yw_v b n p with ⟨j, hj, e⟩ | e
    · rw [e, Ywr_k hj] at h
      rw [e, cw_inj j k hj hk (by omega)]
    · rw [e] at h
      have : (0 : Nat) = 1000100 + cw k := h
      omega
  · intro h
    rw [h, Ywr_k hk]
theorem c75h {d k : Nat} {z : e_Z} {J : Nat → Nat → Int32} {b : Nat → Int32} {n p : Nat} {cs : List Int32} (hk : k < 17) (h : CS z J b n cs p) : e_E (d + 2) 75 [.ref 44, .ref (1000100 + cw k)] (mk J z) = some (.inl (some (.int (if Yw b n p = e_n (k : Nat) then e_n 1 else e_n 0))), mk J z) := by
  have hc := (rl_all k hk).2.2.2.1
  refine e_E_ret (d := d + 1) ?_
  show e_L (d + 1) 75 0 [.ref 44, .ref (1000100 + cw k)] [] (mk J z) = _
  rw [B75_0, if_neg (by rw [e_cc_ne]; exact fun q => q (CS_0 h)), c114h h, e_rF_r, B75_14, e_ac_w (Ywr_in b n p) (Or.inr ⟨by omega, by omega⟩)]
  by_cases hw : Yw b n p = e_n (k : Nat)
  · rw [if_neg (by rw [decide_eq_true ((Ywr_eq hk).mpr hw)]; decide), if_pos hw, B75_23, if_pos (by decide)]
  · rw [if_pos (by rw [decide_eq_false (fun q => hw ((Ywr_eq hk).mp q))]; decide), if_neg hw, B75_22, B75_23, if_pos (by decide)]
theorem c75f {d f q w : Nat} {z : e_Z} {J : Nat → Nat → Int32} (h : CF J f q) : e_E (d + 2) 75 [.ref 44, .ref w] (mk J z) = some (.inl (some (.int (e_n 0))), mk J z) := by
  refine e_E_ret (d := d + 1) ?_
  show e_L (d + 1) 75 0 [.ref 44, .ref w] [] (mk J z) = _
  rw [B75_0, if_pos (by rw [e_cc_ne]; exact CF_ne h), B75_22, B75_23, if_pos (by decide)]
theorem c64h {d : Nat} {z : e_Z} {J : Nat → Nat → Int32} {b : Nat → Int32} {n p : Nat} {cs : List Int32} {x : Int32} (h : CS z J b n cs p) : ∃ J', e_E (d + 3) 64 [.ref 44, .int x] (mk J z) = some (.inl none, mk J' z) ∧ CO z J' b n cs (if Ysg b n p x then .inl (nxP b n p, []) else .inr (1, p)) ∧ CFr z J J' := by
  by_cases hs : Ysg b n p x
  · obtain ⟨J', e1, e2, e3⟩ := cs_step (d := d) h
    refine ⟨J', e_E_ret (d := d + 2) ?_, ?_, e3⟩
    · show e_L (d + 2) 64 0 [.ref 44, .int x] [] (mk J z) = _
      rw [C64_0, if_pos (CS_0 h), if_pos ((CS_s h).mpr hs), e1, e_rV_n, C64_25]
    · rw [if_pos hs]
      show CS z J' b n (cs ++ []) (nxP b n p)
      rw [List.append_nil]; exact e2
  · obtain ⟨J', e1, e2, e3⟩ := cs_fail (d := d + 1) (f := 1) (x := e_n 1) rfl h (by decide) (by decide)
    refine ⟨J', e_E_ret (d := d + 2) ?_, ?_, e3⟩
    · show e_L (d + 2) 64 0 [.ref 44, .int x] [] (mk J z) = _
      rw [C64_0, if_pos (CS_0 h), if_neg (fun q => hs ((CS_s h).mp q)), e1, e_rV_n, C64_33]
    · rw [if_neg hs]; exact e2
theorem c64f {d f q : Nat} {z : e_Z} {J : Nat → Nat → Int32} {x : Int32} (h : CF J f q) : e_E (d + 3) 64 [.ref 44, .int x] (mk J z) = some (.inl none, mk J z) := by
  refine e_E_ret (d := d + 2) ?_
  show e_L (d + 2) 64 0 [.ref 44, .int x] [] (mk J z) = _
  rw [C64_0, if_neg (CF_ne h)]
theorem gv_t {k : Nat} (hk : k < 17) (K : Int32 → e_X) : e_gsI 40 1 (1000100 + k) K = K (e_wv.getD k 0) := by
  unfold e_gsI
  rw [if_pos ⟨rfl, rfl, by omega, by omega⟩, show 1000100 + k - 1000100 = k by omega]
theorem wv_all : ∀ k, k < 17 → (k < 8 → e_wv.getD (cw k) 0 = e_n (-1) - e_n (k : Nat) ∧ ¬ e_n (-1) - e_n (k : Nat) = 0) ∧ (8 ≤ k → e_wv.getD (cw k) 0 = 0) := by
  have : ∀ k : Fin 17, (k.val < 8 → e_wv.getD (cw k.val) 0 = e_n (-1) - e_n (k.val : Nat) ∧ ¬ e_n (-1) - e_n (k.val : Nat) = 0) ∧ (8 ≤ k.val → e_wv.getD (cw k.val) 0 = 0) := by decide +kernel
  exact fun k hk => this ⟨k, hk⟩
theorem c85h {d : Nat} {z : e_Z} {J : Nat → Nat → Int32} {b : Nat → Int32} {n p : Nat} {cs : List Int32} (h : CS z J b n cs p) (hl : cs.length < 700) : ∃ J', e_E (d + 3) 85 [.ref 44] (mk J z) = some (.inl none, mk J' z) ∧ CO z J' b n cs (if Yw b n p < 0 ∨ e_n 7 < Yw b n p then .inr (3, p) else .inl (nxP b n p, [e_n (-1) - Yw b n p])) ∧ CFr z J J' := by
  have bad : ∀ s, ∃ J', e_L (d + 2) 85 19 [.ref 44, .ref s] [] (mk J z) = some (.inl none, mk J' z) ∧ CF J' 3 p ∧ CFr z J J' := by
    intro s
    obtain ⟨J', e1, e2, e3⟩ := cs_fail (d := d + 1) (f := 3) (x := e_n 3) rfl h (by decide) (by decide)
    refine ⟨J', ?_, e2, e3⟩
    rw [B85_19, e1, e_rV_n, B85_24]
  suffices hx : ∃ J', e_L (d + 2) 85 0 [.ref 44, .null] [] (mk J z) = some (.inl none, mk J' z) ∧ CO z J' b n cs (if Yw b n p < 0 ∨ e_n 7 < Yw b n p then .inr (3, p) else .inl (nxP b n p, [e_n (-1) - Yw b n p])) ∧ CFr z J J' by
    obtain ⟨J', e1, e2⟩ := hx
    exact ⟨J', e_E_ret (d := d + 2) e1, e2⟩
  rw [B85_0, c114h (d := d + 1) h, e_rF_r, B85_7]
  rcases Yw_v b n p with ⟨k, hk, e⟩ | e
  · have hc := (rl_all k hk).2.2.2.1
    obtain ⟨v1, v2⟩ := wv_all k hk
    rw [e, Ywr_k hk, if_neg (by rw [decide_eq_true_eq]; omega), B85_12, gv_t hc, B85_16]
    have c0 : ¬ e_n (k : Nat) < 0 := by rw [show (0 : Int32) = e_n ((0 : Nat) : Nat) from rfl, e_n_ltN (by omega) (by omega)]; omega
    have c7 : (e_n 7 < e_n (k : Nat)) = (7 < k) := by rw [show (e_n 7) = e_n ((7 : Nat) : Nat) from rfl, e_n_ltN (by omega) (by omega)]
    by_cases h8 : k < 8
    · obtain ⟨w1, w2⟩ := v1 h8
      obtain ⟨J1, a1, a2, a3⟩ := cs_add (d := d) (c := e_n (-1) - e_n (k : Nat)) h hl
      obtain ⟨J2, b1, b2, b3⟩ := cs_step (d := d) a2
      refine ⟨J2, ?_, ?_, CFr_tr a3 b3⟩
      · rw [w1, if_pos (by rw [e_cc_ne]; exact w2), B85_25, gv_t hc, w1, B85_36, a1, e_rV_n, B85_39, b1, e_rV_n, B85_46]
      · rw [if_neg (by rw [c7]; exact fun q => q.elim c0 (fun q => by omega))]
        exact b2
    · obtain ⟨J', e1, e2, e3⟩ := bad (1000100 + cw k)
      refine ⟨J', ?_, ?_, e3⟩
      · rw [v2 (by omega), if_neg (by rw [e_cc_ne]; exact fun q => q rfl)]
        exact e1
      · rw [if_pos (Or.inr (by rw [c7]; omega))]
        exact e2
  · obtain ⟨J', e1, e2, e3⟩ := bad 0
    rw [e]
    refine ⟨J', ?_, ?_, e3⟩
    · have : Ywr (e_n (-1)) = 0 := rfl
      rw [this, if_pos (by decide)]
      exact e1
    · rw [if_pos (Or.inl (by decide))]
      exact e2
theorem c84h {d : Nat} {z : e_Z} {J : Nat → Nat → Int32} {b : Nat → Int32} {n p : Nat} {cs : List Int32} (h : CS z J b n cs p) (k2 : tkK b n p = 2) (hl : cs.length < 700) : ∃ J', e_E (d + 3) 84 [.ref 44] (mk J z) = some (.inl none, mk J' z) ∧ CO z J' b n cs (if 4 < Yln b n p then .inr (2, p) else .inl (nxP b n p, [Ynm b n p])) ∧ CFr z J J' := by
  have h9 : J 45 9 = if 4 < Yln b n p then e_n (-1) else Ynm b n p := (CS_k h).2.2.trans (cv_2 k2)
  suffices hx : ∃ J', e_L (d + 2) 84 0 [.ref 44] [] (mk J z) = some (.inl none, mk J' z) ∧ CO z J' b n cs (if 4 < Yln b n p then .inr (2, p) else .inl (nxP b n p, [Ynm b n p])) ∧ CFr z J J' by
    obtain ⟨J', e1, e2⟩ := hx
    exact ⟨J', e_E_ret (d := d + 2) e1, e2⟩
  by_cases h4 : 4 < Yln b n p
  · rw [if_pos h4] at h9
    obtain ⟨J', e1, e2, e3⟩ := cs_fail (d := d + 1) (f := 2) (x := e_n 2) rfl h (by decide) (by decide)
    refine ⟨J', ?_, by rw [if_pos h4]; exact e2, e3⟩
    rw [C84_0, if_pos h9, e1, e_rV_n, C84_16]
  · rw [if_neg h4] at h9
    obtain ⟨v, v1, v2⟩ := Ynm_n k2 h4
    obtain ⟨J1, a1, a2, a3⟩ := cs_add (d := d) (c := Ynm b n p) h hl
    obtain ⟨J2, b1, b2, b3⟩ := cs_step (d := d) a2
    refine ⟨J2, ?_, by rw [if_neg h4]; exact b2, CFr_tr a3 b3⟩
    rw [C84_0, h9, if_neg (by rw [v2, e_n_inj (by omega) (by omega) (by omega) (by omega)]; omega), a1, e_rV_n, C84_34, b1, e_rV_n, C84_41]
theorem CO_in {z : e_Z} {J : Nat → Nat → Int32} {b : Nat → Int32} {n : Nat} {cs : List Int32} {q : Nat} {a : List Int32} : CO z J b n cs (.inl (q, a)) = CS z J b n (cs ++ a) q := rfl
theorem CO_er {z : e_Z} {J : Nat → Nat → Int32} {b : Nat → Int32} {n : Nat} {cs : List Int32} {f q : Nat} : CO z J b n cs (.inr (f, q)) = CF J f q := rfl
theorem c83h {d w : Nat} {z : e_Z} {b : Nat → Int32} {n : Nat} {sub : Nat → YR} (hn : n ≤ 700) (hs : YG n sub) (hX : CX z b n (e_E (d + 3) 77 [.ref 44, .int (e_n ((w + 1 : Nat) : Nat))]) sub) : CX z b n (e_E (d + 4) 83 [.ref 44, .int (e_n (w : Nat))]) (Ypart b n sub) := by
  intro J cs p hC hl hp
  suffices hx : ∃ J', e_L (d + 3) 83 0 [.ref 44, .int (e_n (w : Nat))] [] (mk J z) = some (.inl none, mk J' z) ∧ CO z J' b n cs (Ypart b n sub p) ∧ CFr z J J' by
    obtain ⟨J', e1, e2⟩ := hx
    exact ⟨J', e_E_ret (d := d + 3) e1, e2⟩
  obtain ⟨h7, -, -⟩ := CS_k hC
  have q2 : (J 45 7 = e_n 2) ↔ tkK b n p = 1 := by rw [h7]; exact ck_2
  have q3 : (J 45 7 = e_n 3) ↔ tkK b n p = 2 := by rw [h7]; exact ck_3
  unfold Ypart
  rw [C83_0, if_pos (CS_0 hC)]
  by_cases k1 : tkK b n p = 1
  · have := (tk_1 k1).1
    obtain ⟨J', e1, e2, e3⟩ := c85h (d := d) hC (by omega)
    refine ⟨J', ?_, by rw [if_pos k1]; exact e2, e3⟩
    rw [if_pos (q2.mpr k1), e1, e_rV_n, C83_23]
  · rw [if_neg (fun q => k1 (q2.mp q)), if_neg k1]
    by_cases k2 : tkK b n p = 2
    · have := (tk_2 k2).1
      obtain ⟨J', e1, e2, e3⟩ := c84h (d := d) hC k2 (by omega)
      refine ⟨J', ?_, by rw [if_pos k2]; exact e2, e3⟩
      rw [if_pos (q3.mpr k2), e1, e_rV_n, C83_41]
    · rw [if_neg (fun q => k2 (q3.mp q)), if_neg k2]
      by_cases k3 : Ysg b n p (e_n 40)
      · have hlt := nxP_lt (b := b) (n := n) (p := p) (tk_3 k3.1).1
        obtain ⟨J1, a1, a2, a3⟩ := cs_step (d := d + 1) hC
        obtain ⟨J2, b1, b2, b3⟩ := hX J1 cs (nxP b n p) a2 (by omega) hlt.2
        rw [if_pos ((CS_s hC).mpr k3), if_pos k3, a1, e_rV_n, C83_63, e_n_succ, b1, e_rV_n, C83_70]
        cases hx : sub (nxP b n p) with
        | inr e =>
          obtain ⟨f, q⟩ := e
          rw [hx, CO_er] at b2
          refine ⟨J2, ?_, by rw [Yb_r, CO_er]; exact b2, CFr_tr a3 b3⟩
          rw [c64f b2, e_rV_n, C83_76]
        | inl r =>
          obtain ⟨q, a⟩ := r
          rw [hx, CO_in] at b2
          obtain ⟨J3, c1, c2, c3⟩ := c64h (d := d) (x := e_n 41) b2
          refine ⟨J3, ?_, ?_, CFr_tr (CFr_tr a3 b3) c3⟩
          · rw [c1, e_rV_n, C83_76]
          · rw [Yb_l]
            by_cases k4 : Ysg b n q (e_n 41)
            · rw [if_pos k4, CO_in, List.append_nil] at c2
              rw [if_pos k4, CO_in]; exact c2
            · rw [if_neg k4, CO_er] at c2
              rw [if_neg k4, CO_er]; exact c2
      · rw [if_neg (fun q => k3 ((CS_s hC).mp q)), if_neg k3]
        obtain ⟨J', e1, e2, e3⟩ := cs_fail (d := d + 2) (f := 1) (x := e_n 1) rfl hC (by decide) (by decide)
        refine ⟨J', ?_, e2, e3⟩
        rw [e1, e_rV_n, C83_84]
end S99zt
