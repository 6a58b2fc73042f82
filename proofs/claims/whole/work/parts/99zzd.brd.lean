/-! the class's board in the making -/
section S99zzd
theorem fm_cg {B B' : e_B} {m is : Int32} (h : bTi B' = bTi B) (hk : ∀ k, k < bTi B → bR B' 7 k = bR B 7 k ∧ bR B' 8 k = bR B 8 k ∧ bR B' 9 k = bR B 9 k) : fm B' m is = fm B m is := by
  unfold fm
  rw [h]
  exact itr_congr (fun i s hi => by rw [(hk i hi).1, (hk i hi).2.1, (hk i hi).2.2])
theorem fm_new {B : e_B} {is : Int32} (wb : WB B) : fm B (e_n (bMa B : Nat)) is = e_n 0 := by
  apply bt_ext
  intro i hi
  rw [bt_0]
  have hmm := wb.1
  cases hb : bt (fm B (e_n (bMa B : Nat)) is) i with
  | false => rfl
  | true =>
    obtain ⟨k, hk, h7, -⟩ := (bt_fm wb _ _ _).mp hb
    obtain ⟨⟨m, m1, m2⟩, -⟩ := wb.2.2.2.2.2.2.2.2.2.2.1 k hk
    rw [m2, e_n_inj (by omega) (by omega) (by omega) (by omega)] at h7
    omega
theorem or_0 (x : Int32) : x ||| e_n 0 = x := by
  apply bt_ext
  intro i _
  rw [bt_or, bt_0, Bool.or_false]
theorem BrC_ma {J : Nat → Nat → Int32} {b v : Nat} {B : e_B} (wb : WB B) (h : BrC J b B) : BrC (e_u (e_u (e_u (e_u J (b + 12) (bMa B) (e_n (v : Nat))) (b + 13) (bMa B) (e_n 0)) (b + 14) (bMa B) (e_n 0)) b 2 (e_n ((bMa B + 1 : Nat) : Nat))) b (adMa B v) := by
  obtain ⟨h1, h2, h3, h4, h5, h6, h7, h8, h9, h10, h11, h12, h13⟩ := h
  have w4 := wb.2.2.2.1
  generalize hK : (e_u (e_u (e_u (e_u J (b + 12) (bMa B) (e_n (v : Nat))) (b + 13) (bMa B) (e_n 0)) (b + 14) (bMa B) (e_n 0)) b 2 (e_n ((bMa B + 1 : Nat) : Nat))) = K
  have kr : ∀ r, r ≠ b → r ≠ b + 12 → r ≠ b + 13 → r ≠ b + 14 → K r = J r := fun r a1 a2 a3 a4 => by rw [← hK, e_u_na a1, e_u_na a4, e_u_na a3, e_u_na a2]
  have k0 : ∀ k, k ≠ 2 → K b k = J b k := fun k hk => by rw [← hK, e_u_ne hk, e_u_na (by omega), e_u_na (by omega), e_u_na (by omega)]
  have hR : ∀ r, r ≠ 10 → bR (adMa B v) r = bR B r := fun r hr => e_u_na hr
  have f10 : ∀ k, bR (adMa B v) 10 k = if k = 31 + bMa B then e_n (v : Nat) else bR B 10 k := fun k => by
    show e_u (bR B) 10 (31 + bMa B) (e_n (v : Nat)) 10 k = _
    rw [e_u_at]
  have hfm : ∀ m is, fm (adMa B v) m is = fm B m is := fun m is => fm_cg rfl (fun k _ => ⟨by rw [hR 7 (by decide)], by rw [hR 8 (by decide)], by rw [hR 9 (by decide)]⟩)
  refine ⟨by rw [← hK, e_u_same]; rfl, ?_, ?_, ?_, ?_, ?_, ?_, ?_, ?_, ?_, ?_, ?_, ?_⟩
  · rw [kr _ (by omega) (by omega) (by omega) (by omega)]; exact h2
  · rw [kr _ (by omega) (by omega) (by omega) (by omega)]; exact h3
  · rw [k0 _ (by decide)]; exact h4
  · rw [k0 _ (by decide)]; exact h5
  · rw [k0 _ (by decide)]; exact h6
  · rw [kr _ (by omega) (by omega) (by omega) (by omega), hR 1 (by decide)]; exact h7
  · rw [kr (b + 3) (by omega) (by omega) (by omega) (by omega), kr (b + 4) (by omega) (by omega) (by omega) (by omega), kr (b + 5) (by omega) (by omega) (by omega) (by omega), hR 2 (by decide), hR 3 (by decide), hR 4 (by decide)]; exact h8
  · intro p hp
    have hp' : p < bPe B := hp
    rw [kr (b + 15) (by omega) (by omega) (by omega) (by omega), kr (b + 17) (by omega) (by omega) (by omega) (by omega), kr (b + 16) (by omega) (by omega) (by omega) (by omega), hR 5 (by decide), hR 6 (by decide), f10, if_neg (by omega)]
    exact h9 p hp
  · intro m hm
    have hm' : m < bMa B + 1 := hm
    have e13 : K (b + 13) m = if m = bMa B then e_n 0 else J (b + 13) m := by rw [← hK, e_u_na (by omega), e_u_na (by omega), e_u_at, e_u_na (by omega)]
    have e14 : K (b + 14) m = if m = bMa B then e_n 0 else J (b + 14) m := by rw [← hK, e_u_na (by omega), e_u_at, e_u_na (by omega), e_u_na (by omega)]
    have e12 : K (b + 12) m = if m = bMa B then e_n (v : Nat) else J (b + 12) m := by rw [← hK, e_u_na (by omega), e_u_na (by omega), e_u_na (by omega), e_u_at]
    rw [e12, e13, e14, hfm, hfm, f10]
    by_cases e : m = bMa B
    · rw [if_pos e, if_pos e, if_pos e, if_pos (by omega), e, fm_new wb, fm_new wb]
      exact ⟨rfl, rfl, rfl⟩
    · rw [if_neg e, if_neg e, if_neg e, if_neg (by omega)]
      exact h10 m (by omega)
  · rw [kr (b + 18) (by omega) (by omega) (by omega) (by omega), kr (b + 19) (by omega) (by omega) (by omega) (by omega), hR 7 (by decide), hR 8 (by decide)]; exact h11
  · rw [kr _ (by omega) (by omega) (by omega) (by omega)]; exact h12
  · rw [kr _ (by omega) (by omega) (by omega) (by omega)]; exact h13
theorem BrC_pl {J : Nat → Nat → Int32} {b : Nat} {x : Int32} {B : e_B} (h : BrC J b B) : BrC (e_u (e_u J (b + 2) (bPl B) x) (b + 1) 0 (e_n ((bPl B + 1 : Nat) : Nat))) b (adPl B x) := by
  obtain ⟨h1, h2, h3, h4, h5, h6, h7, h8, h9, h10, h11, h12, h13⟩ := h
  generalize hK : (e_u (e_u J (b + 2) (bPl B) x) (b + 1) 0 (e_n ((bPl B + 1 : Nat) : Nat))) = K
  have kr : ∀ r, r ≠ b + 1 → r ≠ b + 2 → K r = J r := fun r a1 a2 => by rw [← hK, e_u_na a1, e_u_na a2]
  have hR : ∀ r, r ≠ 1 → bR (adPl B x) r = bR B r := fun r hr => e_u_na hr
  have hfm : ∀ m is, fm (adPl B x) m is = fm B m is := fun m is => fm_cg rfl (fun k _ => ⟨by rw [hR 7 (by decide)], by rw [hR 8 (by decide)], by rw [hR 9 (by decide)]⟩)
  refine ⟨?_, by rw [← hK, e_u_same]; rfl, ?_, ?_, ?_, ?_, ?_, ?_, ?_, ?_, ?_, ?_, ?_⟩
  · rw [kr _ (by omega) (by omega)]; exact h1
  · rw [← hK, e_u_ne (by decide), e_u_na (by omega)]; exact h3
  · rw [kr _ (by omega) (by omega)]; exact h4
  · rw [kr _ (by omega) (by omega)]; exact h5
  · rw [kr _ (by omega) (by omega)]; exact h6
  · intro a ha
    have ha' : a < bPl B + 1 := ha
    have e2 : K (b + 2) a = if a = bPl B then x else J (b + 2) a := by rw [← hK, e_u_na (by omega), e_u_at]
    have e3 : bR (adPl B x) 1 a = if a = bPl B then x else bR B 1 a := by
      show e_u (bR B) 1 (bPl B) x 1 a = _
      rw [e_u_at]
    rw [e2, e3]
    by_cases e : a = bPl B
    · rw [if_pos e, if_pos e]
    · rw [if_neg e, if_neg e]; exact h7 a (by omega)
  · rw [kr (b + 3) (by omega) (by omega), kr (b + 4) (by omega) (by omega), kr (b + 5) (by omega) (by omega), hR 2 (by decide), hR 3 (by decide), hR 4 (by decide)]; exact h8
  · rw [kr (b + 15) (by omega) (by omega), kr (b + 17) (by omega) (by omega), kr (b + 16) (by omega) (by omega), hR 5 (by decide), hR 6 (by decide), hR 10 (by decide)]; exact h9
  · intro m hm
    rw [kr (b + 13) (by omega) (by omega), kr (b + 14) (by omega) (by omega), kr (b + 12) (by omega) (by omega), hfm, hfm, hR 10 (by decide)]; exact h10 m hm
  · rw [kr (b + 18) (by omega) (by omega), kr (b + 19) (by omega) (by omega), hR 7 (by decide), hR 8 (by decide)]; exact h11
  · rw [kr _ (by omega) (by omega)]; exact h12
  · rw [kr _ (by omega) (by omega)]; exact h13
theorem BrC_wy {J : Nat → Nat → Int32} {b a c g : Nat} {B : e_B} (h : BrC J b B) : BrC (e_u (e_u (e_u (e_u J (b + 3) (bWy B) (e_n (a : Nat))) (b + 4) (bWy B) (e_n (c : Nat))) (b + 5) (bWy B) (e_n (g : Nat))) (b + 1) 1 (e_n ((bWy B + 1 : Nat) : Nat))) b (adWy B a c g) := by
  obtain ⟨h1, h2, h3, h4, h5, h6, h7, h8, h9, h10, h11, h12, h13⟩ := h
  generalize hK : (e_u (e_u (e_u (e_u J (b + 3) (bWy B) (e_n (a : Nat))) (b + 4) (bWy B) (e_n (c : Nat))) (b + 5) (bWy B) (e_n (g : Nat))) (b + 1) 1 (e_n ((bWy B + 1 : Nat) : Nat))) = K
  have kr : ∀ r, r ≠ b + 1 → r ≠ b + 3 → r ≠ b + 4 → r ≠ b + 5 → K r = J r := fun r a1 a2 a3 a4 => by rw [← hK, e_u_na a1, e_u_na a4, e_u_na a3, e_u_na a2]
  have hR : ∀ r, r ≠ 2 → r ≠ 3 → r ≠ 4 → bR (adWy B a c g) r = bR B r := fun r h2 h3 h4 => (e_u_na h4).trans ((e_u_na h3).trans (e_u_na h2))
  have hfm : ∀ m is, fm (adWy B a c g) m is = fm B m is := fun m is => fm_cg rfl (fun k _ => ⟨by rw [hR 7 (by decide) (by decide) (by decide)], by rw [hR 8 (by decide) (by decide) (by decide)], by rw [hR 9 (by decide) (by decide) (by decide)]⟩)
  refine ⟨?_, ?_, by rw [← hK, e_u_same]; rfl, ?_, ?_, ?_, ?_, ?_, ?_, ?_, ?_, ?_, ?_⟩
  · rw [kr _ (by omega) (by omega) (by omega) (by omega)]; exact h1
  · rw [← hK, e_u_ne (by decide), e_u_na (by omega), e_u_na (by omega), e_u_na (by omega)]; exact h2
  · rw [kr _ (by omega) (by omega) (by omega) (by omega)]; exact h4
  · rw [kr _ (by omega) (by omega) (by omega) (by omega)]; exact h5
  · rw [kr _ (by omega) (by omega) (by omega) (by omega)]; exact h6
  · rw [kr _ (by omega) (by omega) (by omega) (by omega), hR 1 (by decide) (by decide) (by decide)]; exact h7
  · intro w hw
    have hw' : w < bWy B + 1 := hw
    have e3 : K (b + 3) w = if w = bWy B then e_n (a : Nat) else J (b + 3) w := by rw [← hK, e_u_na (by omega), e_u_na (by omega), e_u_na (by omega), e_u_at]
    have e4 : K (b + 4) w = if w = bWy B then e_n (c : Nat) else J (b + 4) w := by rw [← hK, e_u_na (by omega), e_u_na (by omega), e_u_at, e_u_na (by omega)]
    have e5 : K (b + 5) w = if w = bWy B then e_n (g : Nat) else J (b + 5) w := by rw [← hK, e_u_na (by omega), e_u_at, e_u_na (by omega), e_u_na (by omega)]
    have f2 : bR (adWy B a c g) 2 w = if w = bWy B then e_n (a : Nat) else bR B 2 w := by
      show e_u (e_u (e_u (bR B) 2 (bWy B) (e_n (a : Nat))) 3 (bWy B) (e_n (c : Nat))) 4 (bWy B) (e_n (g : Nat)) 2 w = _
      rw [e_u_na (by decide), e_u_na (by decide), e_u_at]
    have f3 : bR (adWy B a c g) 3 w = if w = bWy B then e_n (c : Nat) else bR B 3 w := by
      show e_u (e_u (e_u (bR B) 2 (bWy B) (e_n (a : Nat))) 3 (bWy B) (e_n (c : Nat))) 4 (bWy B) (e_n (g : Nat)) 3 w = _
      rw [e_u_na (by decide), e_u_at, e_u_na (by decide)]
    have f4 : bR (adWy B a c g) 4 w = if w = bWy B then e_n (g : Nat) else bR B 4 w := by
      show e_u (e_u (e_u (bR B) 2 (bWy B) (e_n (a : Nat))) 3 (bWy B) (e_n (c : Nat))) 4 (bWy B) (e_n (g : Nat)) 4 w = _
      rw [e_u_at, e_u_na (by decide), e_u_na (by decide)]
    rw [e3, e4, e5, f2, f3, f4]
    by_cases e : w = bWy B
    · rw [if_pos e, if_pos e, if_pos e, if_pos e, if_pos e, if_pos e]
      exact ⟨rfl, rfl, rfl⟩
    · rw [if_neg e, if_neg e, if_neg e, if_neg e, if_neg e, if_neg e]; exact h8 w (by omega)
  · rw [kr (b + 15) (by omega) (by omega) (by omega) (by omega), kr (b + 17) (by omega) (by omega) (by omega) (by omega), kr (b + 16) (by omega) (by omega) (by omega) (by omega), hR 5 (by decide) (by decide) (by decide), hR 6 (by decide) (by decide) (by decide), hR 10 (by decide) (by decide) (by decide)]; exact h9
  · intro m hm
    rw [kr (b + 13) (by omega) (by omega) (by omega) (by omega), kr (b + 14) (by omega) (by omega) (by omega) (by omega), kr (b + 12) (by omega) (by omega) (by omega) (by omega), hfm, hfm, hR 10 (by decide) (by decide) (by decide)]; exact h10 m hm
  · rw [kr (b + 18) (by omega) (by omega) (by omega) (by omega), kr (b + 19) (by omega) (by omega) (by omega) (by omega), hR 7 (by decide) (by decide) (by decide), hR 8 (by decide) (by decide) (by decide)]; exact h11
  · rw [kr _ (by omega) (by omega) (by omega) (by omega)]; exact h12
  · rw [kr _ (by omega) (by omega) (by omega) (by omega)]; exact h13
theorem BrC_pe {J : Nat → Nat → Int32} {b g a : Nat} {B : e_B} (wb : WB B) (h9' : bPe B < 9) (h : BrC J b B) : BrC (e_u (e_u (e_u (e_u J (b + 15) (bPe B) (e_n (g : Nat))) (b + 16) (bPe B) (e_n (a : Nat))) (b + 17) (bPe B) (e_n 0)) b 6 (e_n ((bPe B + 1 : Nat) : Nat))) b (adPe B g a) := by
  obtain ⟨h1, h2, h3, h4, h5, h6, h7, h8, h9, h10, h11, h12, h13⟩ := h
  generalize hK : (e_u (e_u (e_u (e_u J (b + 15) (bPe B) (e_n (g : Nat))) (b + 16) (bPe B) (e_n (a : Nat))) (b + 17) (bPe B) (e_n 0)) b 6 (e_n ((bPe B + 1 : Nat) : Nat))) = K
  have kr : ∀ r, r ≠ b → r ≠ b + 15 → r ≠ b + 16 → r ≠ b + 17 → K r = J r := fun r a1 a2 a3 a4 => by rw [← hK, e_u_na a1, e_u_na a4, e_u_na a3, e_u_na a2]
  have k0 : ∀ k, k ≠ 6 → K b k = J b k := fun k hk => by rw [← hK, e_u_ne hk, e_u_na (by omega), e_u_na (by omega), e_u_na (by omega)]
  have hR : ∀ r, r ≠ 5 → r ≠ 10 → r ≠ 6 → bR (adPe B g a) r = bR B r := fun r h2 h3 h4 => (e_u_na h4).trans ((e_u_na h3).trans (e_u_na h2))
  have f10 : ∀ k, bR (adPe B g a) 10 k = if k = 22 + bPe B then e_n (a : Nat) else bR B 10 k := fun k => by
    show e_u (e_u (e_u (bR B) 5 (bPe B) (e_n (g : Nat))) 10 (22 + bPe B) (e_n (a : Nat))) 6 (bPe B) (e_n 0) 10 k = _
    rw [e_u_na (by decide), e_u_at, e_u_na (by decide)]
  have hfm : ∀ m is, fm (adPe B g a) m is = fm B m is := fun m is => fm_cg rfl (fun k _ => ⟨by rw [hR 7 (by decide) (by decide) (by decide)], by rw [hR 8 (by decide) (by decide) (by decide)], by rw [hR 9 (by decide) (by decide) (by decide)]⟩)
  refine ⟨?_, ?_, ?_, by rw [← hK, e_u_same]; rfl, ?_, ?_, ?_, ?_, ?_, ?_, ?_, ?_, ?_⟩
  · rw [k0 _ (by decide)]; exact h1
  · rw [kr _ (by omega) (by omega) (by omega) (by omega)]; exact h2
  · rw [kr _ (by omega) (by omega) (by omega) (by omega)]; exact h3
  · rw [k0 _ (by decide)]; exact h5
  · rw [k0 _ (by decide)]; exact h6
  · rw [kr _ (by omega) (by omega) (by omega) (by omega), hR 1 (by decide) (by decide) (by decide)]; exact h7
  · rw [kr (b + 3) (by omega) (by omega) (by omega) (by omega), kr (b + 4) (by omega) (by omega) (by omega) (by omega), kr (b + 5) (by omega) (by omega) (by omega) (by omega), hR 2 (by decide) (by decide) (by decide), hR 3 (by decide) (by decide) (by decide), hR 4 (by decide) (by decide) (by decide)]; exact h8
  · intro p hp
    have hp' : p < bPe B + 1 := hp
    have e15 : K (b + 15) p = if p = bPe B then e_n (g : Nat) else J (b + 15) p := by rw [← hK, e_u_na (by omega), e_u_na (by omega), e_u_na (by omega), e_u_at]
    have e16 : K (b + 16) p = if p = bPe B then e_n (a : Nat) else J (b + 16) p := by rw [← hK, e_u_na (by omega), e_u_na (by omega), e_u_at, e_u_na (by omega)]
    have e17 : K (b + 17) p = if p = bPe B then e_n 0 else J (b + 17) p := by rw [← hK, e_u_na (by omega), e_u_at, e_u_na (by omega), e_u_na (by omega)]
    have f5 : bR (adPe B g a) 5 p = if p = bPe B then e_n (g : Nat) else bR B 5 p := by
      show e_u (e_u (e_u (bR B) 5 (bPe B) (e_n (g : Nat))) 10 (22 + bPe B) (e_n (a : Nat))) 6 (bPe B) (e_n 0) 5 p = _
      rw [e_u_na (by decide), e_u_na (by decide), e_u_at]
    have f6 : bR (adPe B g a) 6 p = if p = bPe B then e_n 0 else bR B 6 p := by
      show e_u (e_u (e_u (bR B) 5 (bPe B) (e_n (g : Nat))) 10 (22 + bPe B) (e_n (a : Nat))) 6 (bPe B) (e_n 0) 6 p = _
      rw [e_u_at, e_u_na (by decide), e_u_na (by decide)]
    rw [e15, e16, e17, f5, f6, f10]
    by_cases e : p = bPe B
    · rw [if_pos e, if_pos e, if_pos e, if_pos e, if_pos e, if_pos (by omega)]
      exact ⟨rfl, rfl, rfl⟩
    · rw [if_neg e, if_neg e, if_neg e, if_neg e, if_neg e, if_neg (by omega)]; exact h9 p (by omega)
  · intro m hm
    rw [kr (b + 13) (by omega) (by omega) (by omega) (by omega), kr (b + 14) (by omega) (by omega) (by omega) (by omega), kr (b + 12) (by omega) (by omega) (by omega) (by omega), hfm, hfm, f10, if_neg (by omega)]; exact h10 m hm
  · rw [kr (b + 18) (by omega) (by omega) (by omega) (by omega), kr (b + 19) (by omega) (by omega) (by omega) (by omega), hR 7 (by decide) (by decide) (by decide), hR 8 (by decide) (by decide) (by decide)]; exact h11
  · rw [kr _ (by omega) (by omega) (by omega) (by omega)]; exact h12
  · rw [kr _ (by omega) (by omega) (by omega) (by omega)]; exact h13
theorem BrC_ki {J : Nat → Nat → Int32} {b a c : Nat} {B : e_B} (ha : a < bPe B) (hc : c < bPe B) (h : BrC J b B) : BrC (e_u (e_u (e_u J (b + 17) a (bR B 6 a ||| e_shl (e_n 1) (e_n (c : Nat)))) (b + 17) c ((e_u J (b + 17) a (bR B 6 a ||| e_shl (e_n 1) (e_n (c : Nat)))) (b + 17) c ||| e_shl (e_n 1) (e_n (a : Nat)))) b 10 (e_n ((bKi B + 1 : Nat) : Nat))) b (adKi B a c) ∨ c = a := by
  by_cases hac : c = a
  · exact Or.inr hac
  refine Or.inl ?_
  obtain ⟨h1, h2, h3, h4, h5, h6, h7, h8, h9, h10, h11, h12, h13⟩ := h
  rw [e_u_ne hac, (h9 c hc).2.1]
  generalize hK : (e_u (e_u (e_u J (b + 17) a (bR B 6 a ||| e_shl (e_n 1) (e_n (c : Nat)))) (b + 17) c (bR B 6 c ||| e_shl (e_n 1) (e_n (a : Nat)))) b 10 (e_n ((bKi B + 1 : Nat) : Nat))) = K
  have kr : ∀ r, r ≠ b → r ≠ b + 17 → K r = J r := fun r a1 a2 => by rw [← hK, e_u_na a1, e_u_na a2, e_u_na a2]
  have k0 : ∀ k, k ≠ 10 → K b k = J b k := fun k hk => by rw [← hK, e_u_ne hk, e_u_na (by omega), e_u_na (by omega)]
  have hR : ∀ r, r ≠ 6 → bR (adKi B a c) r = bR B r := fun r h2 => (e_u_na h2).trans (e_u_na h2)
  have hfm : ∀ m is, fm (adKi B a c) m is = fm B m is := fun m is => fm_cg rfl (fun k _ => ⟨by rw [hR 7 (by decide)], by rw [hR 8 (by decide)], by rw [hR 9 (by decide)]⟩)
  refine ⟨?_, ?_, ?_, ?_, by rw [← hK, e_u_same]; rfl, ?_, ?_, ?_, ?_, ?_, ?_, ?_, ?_⟩
  · rw [k0 _ (by decide)]; exact h1
  · rw [kr _ (by omega) (by omega)]; exact h2
  · rw [kr _ (by omega) (by omega)]; exact h3
  · rw [k0 _ (by decide)]; exact h4
  · rw [k0 _ (by decide)]; exact h6
  · rw [kr _ (by omega) (by omega), hR 1 (by decide)]; exact h7
  · rw [kr (b + 3) (by omega) (by omega), kr (b + 4) (by omega) (by omega), kr (b + 5) (by omega) (by omega), hR 2 (by decide), hR 3 (by decide), hR 4 (by decide)]; exact h8
  · intro p hp
    have e17 : K (b + 17) p = if p = c then bR B 6 c ||| e_shl (e_n 1) (e_n (a : Nat)) else if p = a then bR B 6 a ||| e_shl (e_n 1) (e_n (c : Nat)) else J (b + 17) p := by rw [← hK, e_u_na (by omega), e_u_at, e_u_at]
    have f6 : bR (adKi B a c) 6 p = if p = c then bR B 6 c ||| e_shl (e_n 1) (e_n (a : Nat)) else if p = a then bR B 6 a ||| e_shl (e_n 1) (e_n (c : Nat)) else bR B 6 p := by
      show e_u (e_u (bR B) 6 a (bR B 6 a ||| e_shl (e_n 1) (e_n (c : Nat)))) 6 c (bR B 6 c ||| e_shl (e_n 1) (e_n (a : Nat))) 6 p = _
      rw [e_u_at, e_u_at]
    rw [kr (b + 15) (by omega) (by omega), kr (b + 16) (by omega) (by omega), hR 5 (by decide), hR 10 (by decide), e17, f6, (h9 p hp).2.1]
    exact ⟨(h9 p hp).1, rfl, (h9 p hp).2.2⟩
  · intro m hm
    rw [kr (b + 13) (by omega) (by omega), kr (b + 14) (by omega) (by omega), kr (b + 12) (by omega) (by omega), hfm, hfm, hR 10 (by decide)]; exact h10 m hm
  · rw [kr (b + 18) (by omega) (by omega), kr (b + 19) (by omega) (by omega), hR 7 (by decide), hR 8 (by decide)]; exact h11
  · rw [kr _ (by omega) (by omega)]; exact h12
  · rw [kr _ (by omega) (by omega)]; exact h13
theorem BrC_ti {J : Nat → Nat → Int32} {b r m c : Nat} {is : Int32} {B : e_B} (wb : WB B) (hr : (r = 13 ∧ is = e_n 1) ∨ (r = 14 ∧ is = e_n 0)) (hm : m < bMa B) (h : BrC J b B) : BrC (e_u (e_u (e_u (e_u J (b + r) m (J (b + r) m ||| e_shl (e_n 1) (e_n (c : Nat)))) (b + 18) (bTi B) (e_n (m : Nat))) (b + 19) (bTi B) (e_n (c : Nat))) b 11 (e_n ((bTi B + 1 : Nat) : Nat))) b (adTi B m c is) := by
  obtain ⟨h1, h2, h3, h4, h5, h6, h7, h8, h9, h10, h11, h12, h13⟩ := h
  have w1 := wb.1
  generalize hK : (e_u (e_u (e_u (e_u J (b + r) m (J (b + r) m ||| e_shl (e_n 1) (e_n (c : Nat)))) (b + 18) (bTi B) (e_n (m : Nat))) (b + 19) (bTi B) (e_n (c : Nat))) b 11 (e_n ((bTi B + 1 : Nat) : Nat))) = K
  have kr : ∀ q, q ≠ b → q ≠ b + r → q ≠ b + 18 → q ≠ b + 19 → K q = J q := fun q a1 a2 a3 a4 => by rw [← hK, e_u_na a1, e_u_na a4, e_u_na a3, e_u_na a2]
  have k0 : ∀ k, k ≠ 11 → K b k = J b k := fun k hk => by rw [← hK, e_u_ne hk, e_u_na (by omega), e_u_na (by omega), e_u_na (by omega)]
  have hR : ∀ r, r ≠ 7 → r ≠ 8 → r ≠ 9 → bR (adTi B m c is) r = bR B r := fun r h2 h3 h4 => (e_u_na h4).trans ((e_u_na h3).trans (e_u_na h2))
  have f7 : ∀ k, bR (adTi B m c is) 7 k = if k = bTi B then e_n (m : Nat) else bR B 7 k := fun k => by
    show e_u (e_u (e_u (bR B) 7 (bTi B) (e_n (m : Nat))) 8 (bTi B) (e_n (c : Nat))) 9 (bTi B) is 7 k = _
    rw [e_u_na (by decide), e_u_na (by decide), e_u_at]
  have f8 : ∀ k, bR (adTi B m c is) 8 k = if k = bTi B then e_n (c : Nat) else bR B 8 k := fun k => by
    show e_u (e_u (e_u (bR B) 7 (bTi B) (e_n (m : Nat))) 8 (bTi B) (e_n (c : Nat))) 9 (bTi B) is 8 k = _
    rw [e_u_na (by decide), e_u_at, e_u_na (by decide)]
  have f9 : ∀ k, bR (adTi B m c is) 9 k = if k = bTi B then is else bR B 9 k := fun k => by
    show e_u (e_u (e_u (bR B) 7 (bTi B) (e_n (m : Nat))) 8 (bTi B) (e_n (c : Nat))) 9 (bTi B) is 9 k = _
    rw [e_u_at, e_u_na (by decide), e_u_na (by decide)]
  have hfm : ∀ m2 is2, fm (adTi B m c is) m2 is2 = fm B m2 is2 ||| (if e_n (m : Nat) = m2 then if is = is2 then e_shl (e_n 1) (e_n (c : Nat)) else e_n 0 else e_n 0) := by
    intro m2 is2
    unfold fm
    show itr _ (bTi B + 1) 0 (e_n 0) = _
    rw [itr_succ, Nat.zero_add, f7, f8, f9, if_pos rfl, if_pos rfl, if_pos rfl]
    congr 1
    exact itr_congr (fun i s hi => by
      have hne : ¬ i = bTi B := by omega
      rw [f7, f8, f9, if_neg hne, if_neg hne, if_neg hne])
  refine ⟨?_, ?_, ?_, ?_, ?_, by rw [← hK, e_u_same]; rfl, ?_, ?_, ?_, ?_, ?_, ?_, ?_⟩
  · rw [k0 _ (by decide)]; exact h1
  · rw [kr _ (by omega) (by omega) (by omega) (by omega)]; exact h2
  · rw [kr _ (by omega) (by omega) (by omega) (by omega)]; exact h3
  · rw [k0 _ (by decide)]; exact h4
  · rw [k0 _ (by decide)]; exact h5
  · rw [kr _ (by omega) (by omega) (by omega) (by omega), hR 1 (by decide) (by decide) (by decide)]; exact h7
  · rw [kr (b + 3) (by omega) (by omega) (by omega) (by omega), kr (b + 4) (by omega) (by omega) (by omega) (by omega), kr (b + 5) (by omega) (by omega) (by omega) (by omega), hR 2 (by decide) (by decide) (by decide), hR 3 (by decide) (by decide) (by decide), hR 4 (by decide) (by decide) (by decide)]; exact h8
  · rw [kr (b + 15) (by omega) (by omega) (by omega) (by omega), kr (b + 17) (by omega) (by omega) (by omega) (by omega), kr (b + 16) (by omega) (by omega) (by omega) (by omega), hR 5 (by decide) (by decide) (by decide), hR 6 (by decide) (by decide) (by decide), hR 10 (by decide) (by decide) (by decide)]; exact h9
  · intro m2 hm2
    have hm2' : m2 < bMa B := hm2
    obtain ⟨q1, q2, q3⟩ := h10 m2 hm2
    have einj : (e_n (m : Nat) = e_n (m2 : Nat)) = (m2 = m) := by rw [e_n_inj (by omega) (by omega) (by omega) (by omega)]; apply propext; omega
    have er : K (b + r) m2 = if m2 = m then J (b + r) m ||| e_shl (e_n 1) (e_n (c : Nat)) else J (b + r) m2 := by rw [← hK, e_u_na (by omega), e_u_na (by omega), e_u_na (by omega), e_u_at]
    have n10 : ¬ e_n 1 = e_n 0 := by decide
    have n01 : ¬ e_n 0 = e_n 1 := by decide
    rw [hfm, hfm, kr (b + 12) (by omega) (by omega) (by omega) (by omega), hR 10 (by decide) (by decide) (by decide)]
    rcases hr with ⟨rfl, rfl⟩ | ⟨rfl, rfl⟩
    · rw [er, kr (b + 14) (by omega) (by omega) (by omega) (by omega), q2, q1, if_pos rfl, if_neg n10]
      refine ⟨?_, ?_, q3⟩
      · by_cases e : m2 = m
        · rw [if_pos e, if_pos (by rw [einj]; exact e), ← e, q1]
        · rw [if_neg e, if_neg (by rw [einj]; exact e), or_0]
      · rw [ite_self, or_0]
    · rw [er, kr (b + 13) (by omega) (by omega) (by omega) (by omega), q1, q2, if_pos rfl, if_neg n01]
      refine ⟨?_, ?_, q3⟩
      · rw [ite_self, or_0]
      · by_cases e : m2 = m
        · rw [if_pos e, if_pos (by rw [einj]; exact e), ← e, q2]
        · rw [if_neg e, if_neg (by rw [einj]; exact e), or_0]
  · intro k hk
    have hk' : k < bTi B + 1 := hk
    have e18 : K (b + 18) k = if k = bTi B then e_n (m : Nat) else J (b + 18) k := by rw [← hK, e_u_na (by omega), e_u_na (by omega), e_u_at, e_u_na (by omega)]
    have e19 : K (b + 19) k = if k = bTi B then e_n (c : Nat) else J (b + 19) k := by rw [← hK, e_u_na (by omega), e_u_at, e_u_na (by omega), e_u_na (by omega)]
    rw [e18, e19, f7, f8]
    by_cases e : k = bTi B
    · rw [if_pos e, if_pos e, if_pos e, if_pos e]
      exact ⟨rfl, rfl⟩
    · rw [if_neg e, if_neg e, if_neg e, if_neg e]; exact h11 k (by omega)
  · rw [kr _ (by omega) (by omega) (by omega) (by omega)]; exact h12
  · rw [kr _ (by omega) (by omega) (by omega) (by omega)]; exact h13
theorem BrC_O {J K : Nat → Nat → Int32} {b : Nat} {B : e_B} {a : List Int32} (h : BrC J b B) (hk : ∀ k, k < 20 → k ≠ 8 → k ≠ 9 → K (b + k) = J (b + k)) (h8 : K (b + 8) 1 = e_n (a.length : Nat)) (h9 : ∀ j, j < a.length → K (b + 9) j = a.getD j 0) : BrC K b (stO B a) := by
  obtain ⟨g1, g2, g3, g4, g5, g6, g7, g8, g9, g10, g11, g12, g13⟩ := h
  have k0 : K b = J b := hk 0 (by decide) (by decide) (by decide)
  have hfm : ∀ m is, fm (stO B a) m is = fm B m is := fun m is => fm_cg rfl (fun k _ => ⟨rfl, rfl, rfl⟩)
  unfold BrC
  rw [k0, hk 1 (by decide) (by decide) (by decide), hk 2 (by decide) (by decide) (by decide), hk 3 (by decide) (by decide) (by decide), hk 4 (by decide) (by decide) (by decide), hk 5 (by decide) (by decide) (by decide), hk 12 (by decide) (by decide) (by decide), hk 13 (by decide) (by decide) (by decide), hk 14 (by decide) (by decide) (by decide), hk 15 (by decide) (by decide) (by decide), hk 16 (by decide) (by decide) (by decide), hk 17 (by decide) (by decide) (by decide), hk 18 (by decide) (by decide) (by decide), hk 19 (by decide) (by decide) (by decide)]
  refine ⟨g1, g2, g3, g4, g5, g6, g7, g8, g9, fun m hm => ?_, g11, h8, h9⟩
  rw [hfm, hfm]
  exact g10 m hm
end S99zzd
