/-! the reference's cells for boards; its rule's value -/
section S65
def rop (c : Int32) : Int32 := if c = e_n (-11) then e_n 3 else if c = e_n (-10) then e_n 4 else if c = e_n (-9) then e_n 5 else if c = e_n (-12) then e_n 6 else if c = e_n (-13) then e_n 7 else if c = e_n (-14) then e_n 8 else if c = e_n (-15) then e_n 9 else if c = e_n (-16) then e_n 10 else e_n 11
def enc1 (c : Int32) : List Int32 := if c < e_n (-8) then [rop c] else if c < 0 then [e_n 2, e_n (-1) - c] else [e_n 1, c]
def enc : List Int32 → List Int32
  | [] => []
  | c :: r => enc1 c ++ enc r
theorem op_cases {c : Int32} {h : Nat} (hk : cOK c h = true) (hlt : c < e_n (-8)) : c = e_n (-11) ∧ 1 ≤ h ∨ ¬ c = e_n (-11) ∧ 2 ≤ h ∧ (c = e_n (-9) ∨ c = e_n (-10) ∨ c = e_n (-12) ∨ c = e_n (-13) ∨ c = e_n (-14) ∨ c = e_n (-15) ∨ c = e_n (-16) ∨ c = e_n (-17)) := by
  unfold cOK at hk
  simp only [hlt, if_true] at hk
  by_cases h1 : c = e_n (-11)
  · simp only [h1, if_true] at hk
    exact Or.inl ⟨h1, by simpa using hk⟩
  · simp only [h1, if_false] at hk
    rw [Bool.and_eq_true] at hk
    exact Or.inr ⟨h1, by simpa using hk.1, by simpa [or_assoc] using hk.2⟩
theorem v221_ap {I : Nat → Nat → Int32} {c a b : Int32} (h : c = e_n (-9) ∨ c = e_n (-10) ∨ c = e_n (-12) ∨ c = e_n (-13) ∨ c = e_n (-14) ∨ c = e_n (-15) ∨ c = e_n (-16) ∨ c = e_n (-17)) : v221 I (rop c) a b = ap c a b ∧ ¬ rop c = 0 ∧ ¬ rop c = e_n 1 ∧ ¬ rop c = e_n 2 ∧ ¬ rop c = e_n 3 := by
  rcases h with rfl | rfl | rfl | rfl | rfl | rfl | rfl | rfl <;> refine ⟨?_, by decide, by decide, by decide, by decide⟩ <;> unfold v221 ap rop <;> simp (decide := true) only [if_true, if_false]
theorem c222h {d : Nat} {z : e_Z} {x1 : Int32} (F : Nat → Int32) :
    ∀ (r : List Int32) (k : Nat) (st : List Int32) (I : Nat → Nat → Int32) (u4 : Value), k + (enc r).length < 1400 → (∀ j, j ≤ (enc r).length → I 499 (k + j) = (enc r ++ [e_n 0]).getD j 0) → (∀ j, j < 8 → I 517 j = F j) → okO r st.length = true → st.length ≤ 40 → (∀ j, j < st.length → I 518 (st.length - 1 - j) = st.getD j 0) →
    ∃ I', e_L (d + 1) 222 4 [.ref 489, .int x1, .int (e_n (st.length : Nat)), .int (e_n (k : Nat)), u4] [] (mk I z) = some (.inl (some (.int ((ev F r st).headD 0))), mk I' z) ∧ ∀ q, q ≠ 518 → I' q = I q := by
  intro r
  induction r with
  | nil =>
    intro k st I u4 hk hc hF hok hst hS
    have h1 : st.length = 1 := by simpa [okO] using hok
    obtain ⟨v, rfl⟩ : ∃ v, st = [v] := by
      match st, h1 with
      | [v], _ => exact ⟨v, rfl⟩
    have h0 : I 499 k = 0 := by
      have := hc 0 (Nat.zero_le _)
      simp [enc] at this
      rw [this]; rfl
    have hkn : (e_n (k : Nat)).toNatClampNeg = k := e_n_nat' (by simp [enc] at hk; omega)
    refine ⟨I, ?_, fun _ _ => rfl⟩
    have c0 : I 499 (e_n (k : Nat)).toNatClampNeg = 0 := by rw [hkn]; exact h0
    rw [C222_4 (InR_n (by omega) (by simp [enc] at hk; omega) (by omega)) (fun h => absurd c0 h) (fun h => absurd c0 h) (fun h => absurd c0 h) (fun h => absurd c0 h) (fun h => absurd c0 h) (fun h => absurd c0 h) (fun h => absurd c0 h) (fun h => absurd c0 h), if_pos c0]
    have := hS 0 (by simp)
    simp at this
    simp [ev, this]
  | cons c r ih =>
    intro k st I u4 hk hc hF hok hst hS
    have hel : (enc (c :: r)).length = (enc1 c).length + (enc r).length := by simp [enc]
    rw [hel] at hk hc
    have hkn : (e_n (k : Nat)).toNatClampNeg = k := e_n_nat' (by omega)
    have hc2 : ∀ j, j ≤ (enc r).length → I 499 (k + (enc1 c).length + j) = (enc r ++ [e_n 0]).getD j 0 := by
      intro j hj
      have := hc ((enc1 c).length + j) (by omega)
      rw [show k + (enc1 c).length + j = k + ((enc1 c).length + j) by omega, this]
      simp [enc, List.getElem?_append_right]
    have hc1 : ∀ j, j < (enc1 c).length → I 499 (k + j) = (enc1 c).getD j 0 := by
      intro j hj
      have := hc j (by omega)
      rw [this]
      simp [enc, List.getElem?_append_left hj]
    rw [okO, Bool.and_eq_true] at hok
    obtain ⟨hck, hok⟩ := hok
    have fin : ∀ (I1 : Nat → Nat → Int32) (st1 : List Int32) (y2 y3 : Int32) (u : Value), y2 = e_n (st1.length : Nat) → y3 = e_n ((k + (enc1 c).length : Nat) : Nat) → st1 = ev1 F c st → (∀ q, q ≠ 518 → I1 q = I q) → st1.length = cH c st.length → st1.length ≤ 40 → (∀ j, j < st1.length → I1 518 (st1.length - 1 - j) = st1.getD j 0) → ∃ I', e_L (d + 1) 222 4 [.ref 489, .int x1, .int y2, .int y3, u] [] (mk I1 z) = some (.inl (some (.int ((ev F (c :: r) st).headD 0))), mk I' z) ∧ ∀ q, q ≠ 518 → I' q = I q := by
      intro I1 st1 y2 y3 u hy2 hy3 hs1 hfr hln hle hS1
      obtain ⟨I', h1, h2⟩ := ih (k + (enc1 c).length) st1 I1 u (by omega) (fun j hj => by rw [hfr _ (by decide)]; exact hc2 j hj) (fun j hj => by rw [hfr _ (by decide)]; exact hF j hj) (by rw [hln]; exact hok) hle hS1
      refine ⟨I', ?_, fun q hq => by rw [h2 q hq, hfr q hq]⟩
      rw [hy2, hy3, h1, hs1]; rfl
    have g0 : InR (e_n (k : Nat)) 1400 := InR_n (by omega) (by omega) (by omega)
    by_cases hlt : c < e_n (-8)
    · have hl1 : enc1 c = [rop c] := by unfold enc1; rw [if_pos hlt]
      have c0 : I 499 k = rop c := by have := hc1 0 (by rw [hl1]; simp); rw [hl1] at this; simpa using this
      rcases op_cases hck hlt with ⟨hnot, hpos⟩ | ⟨hnot, h2, hcs⟩
      · obtain ⟨a, r', rfl⟩ : ∃ a r', st = a :: r' := by
          match st, hpos with
          | a :: r', _ => exact ⟨a, r', rfl⟩
        have hr' : r'.length < 40 := by simp at hst; omega
        have hrop : rop c = e_n 3 := by rw [hnot]; rfl
        have c3 : I 499 (e_n (k : Nat)).toNatClampNeg = e_n 3 := by rw [hkn, c0, hrop]
        have hx : e_n (((a :: r').length : Nat) : Nat) - e_n 1 = e_n (r'.length : Nat) := by rw [e_n_sub]; congr 1; simp
        have hrn : (e_n (r'.length : Nat)).toNatClampNeg = r'.length := e_n_nat' (by omega)
        have ha : I 518 r'.length = a := by simpa using hS 0 (by simp)
        rw [C222_4 g0 (fun _ h => absurd (c3.symm.trans h) (by decide)) (fun _ h => absurd (c3.symm.trans h) (by decide)) (fun _ _ h => absurd (c3.symm.trans h) (by decide)) (fun _ _ h => absurd (c3.symm.trans h) (by decide)) (fun _ _ h => absurd (c3.symm.trans h) (by decide)) (fun _ _ _ _ => by rw [hx]; exact InR_n (by omega) (by omega) (by omega)) (fun _ _ _ h => absurd c3 h) (fun _ _ _ h => absurd c3 h)]
        simp (decide := true) only [c3, if_true, if_false, hx, hrn, ha]
        refine fin _ (tf (a = 0) :: r') _ _ _ (by simp) (by rw [hl1, e_n_succ]; simp) (by unfold ev1; rw [if_pos hlt, if_pos hnot]) (fun q hq => e_u_na hq) (by unfold cH; rw [if_pos hlt, if_pos hnot]; simp) (by simpa using hst) ?_
        intro j hj
        cases j with
        | zero => simp [e_u_same]
        | succ j =>
          have := hS (j + 1) (by simpa using hj)
          simp at hj this ⊢
          rw [e_u_ne (by omega)]
          simpa using this
      · obtain ⟨b0, a0, r', rfl⟩ : ∃ b0 a0 r', st = b0 :: a0 :: r' := by
          match st, h2 with
          | b0 :: a0 :: r', _ => exact ⟨b0, a0, r', rfl⟩
        have hr' : r'.length + 1 < 40 := by simp at hst; omega
        obtain ⟨hv, n0, n1, n2, n3⟩ := v221_ap (I := I) (a := a0) (b := b0) hcs
        have c3 : I 499 (e_n (k : Nat)).toNatClampNeg = rop c := by rw [hkn, c0]
        have hx : e_n (((b0 :: a0 :: r').length : Nat) : Nat) + e_n (-1) = e_n ((r'.length + 1 : Nat) : Nat) := by rw [e_n_add]; congr 1; simp; omega
        have hx2 : e_n ((r'.length + 1 : Nat) : Nat) - e_n 1 = e_n (r'.length : Nat) := by rw [e_n_sub]; congr 1; omega
        have hrn : (e_n (r'.length : Nat)).toNatClampNeg = r'.length := e_n_nat' (by omega)
        have hrn2 : (e_n ((r'.length + 1 : Nat) : Nat)).toNatClampNeg = r'.length + 1 := e_n_nat' (by omega)
        have hb0 : I 518 (r'.length + 1) = b0 := by simpa using hS 0 (by simp)
        have ha0 : I 518 r'.length = a0 := by simpa using hS 1 (by simp)
        rw [C222_4 g0 (fun _ h => absurd (c3.symm.trans h) n1) (fun _ h => absurd (c3.symm.trans h) n1) (fun _ _ h => absurd (c3.symm.trans h) n2) (fun _ _ h => absurd (c3.symm.trans h) n2) (fun _ _ h => absurd (c3.symm.trans h) n2) (fun _ _ _ h => absurd (c3.symm.trans h) n3) (fun _ _ _ _ => by rw [hx, hx2]; exact InR_n (by omega) (by omega) (by omega)) (fun _ _ _ _ => by rw [hx]; exact InR_n (by omega) (by omega) (by omega))]
        simp only [c3, n0, n1, n2, n3, if_false, hx, hx2, hrn, hrn2, ha0, hb0, hv]
        refine fin _ (ap c a0 b0 :: r') _ _ _ (by simp) (by rw [hl1, e_n_succ]; simp) (by unfold ev1; rw [if_pos hlt, if_neg hnot]) (fun q hq => e_u_na hq) (by unfold cH; rw [if_pos hlt, if_neg hnot]; simp) (by simp at hst ⊢; omega) ?_
        intro j hj
        cases j with
        | zero => simp [e_u_same]
        | succ j =>
          have := hS (j + 2) (by simp at hj ⊢; omega)
          simp at hj this ⊢
          rw [e_u_ne (by omega)]
          simpa using this
    · have h40 : st.length < 40 := by
        unfold cOK at hck
        rw [if_neg hlt] at hck
        simpa using hck
      have hstn : (e_n (st.length : Nat)).toNatClampNeg = st.length := e_n_nat' (by omega)
      have hcH : cH c st.length = st.length + 1 := by unfold cH; rw [if_neg hlt]
      have hl2 : (enc1 c).length = 2 := by
        unfold enc1; rw [if_neg hlt]; split <;> rfl
      have hk1 : (e_n (k : Nat) + e_n 1).toNatClampNeg = k + 1 := by rw [e_n_succ]; exact e_n_nat' (by omega)
      have gk1 : InR (e_n (k : Nat) + e_n 1) 1400 := by rw [e_n_succ]; exact InR_n (by omega) (by omega) (by omega)
      have gst : InR (e_n (st.length : Nat)) 950 := InR_n (by omega) (by omega) (by omega)
      have htail : ∀ (v : Int32) (j : Nat), j < (v :: st).length → e_u I 518 st.length v 518 ((v :: st).length - 1 - j) = (v :: st).getD j 0 := by
        intro v j hj
        cases j with
        | zero => simp [e_u_same]
        | succ j =>
          have := hS j (by simpa using hj)
          simp at hj this ⊢
          rw [e_u_ne (by omega), show st.length - (j + 1) = st.length - 1 - j by omega]
          simpa using this
      by_cases hc0 : c < 0
      · have he : enc1 c = [e_n 2, e_n (-1) - c] := by unfold enc1; rw [if_neg hlt, if_pos hc0]
        have c2 : I 499 (e_n (k : Nat)).toNatClampNeg = e_n 2 := by rw [hkn]; have := hc1 0 (by omega); rw [he] at this; simpa using this
        have cv : I 499 (k + 1) = e_n (-1) - c := by have := hc1 1 (by omega); rw [he] at this; simpa using this
        obtain ⟨ci, i1, i2, rfl⟩ := e_n_toI c
        rw [e_n_lt i1 i2 (by decide) (by decide)] at hlt
        rw [show (0 : Int32) = e_n 0 from rfl, e_n_lt i1 i2 (by decide) (by decide)] at hc0
        have hnn : (e_n (-1) - e_n ci).toNatClampNeg = (-1 - ci).toNat := by rw [e_n_sub, e_n_nat (by omega) (by omega)]
        rw [C222_4 g0 (fun _ h => absurd (c2.symm.trans h) (by decide)) (fun _ h => absurd (c2.symm.trans h) (by decide)) (fun _ _ _ => gk1) (fun _ _ _ => by rw [hk1, cv, e_n_sub]; exact InR_n (by omega) (by omega) (by omega)) (fun _ _ _ => gst) (fun _ _ h => absurd c2 h) (fun _ _ h => absurd c2 h) (fun _ _ h => absurd c2 h)]
        simp (decide := true) only [c2, if_true, if_false, hk1, hstn, cv]
        refine fin _ (F (e_n (-1) - e_n ci).toNatClampNeg :: st) _ _ _ (by rw [e_n_succ]; simp) (by rw [hl2, e_n_succ, e_n_succ]) (by unfold ev1; rw [if_neg (by rw [e_n_lt i1 i2 (by decide) (by decide)]; exact hlt), if_pos (by rw [show (0 : Int32) = e_n 0 from rfl, e_n_lt i1 i2 (by decide) (by decide)]; exact hc0)]) (fun q hq => e_u_na hq) (by rw [hcH]; simp) (by simp; omega) ?_
        rw [hF _ (by rw [hnn]; omega)]
        exact htail _
      · have he : enc1 c = [e_n 1, c] := by unfold enc1; rw [if_neg hlt, if_neg hc0]
        have c2 : I 499 (e_n (k : Nat)).toNatClampNeg = e_n 1 := by rw [hkn]; have := hc1 0 (by omega); rw [he] at this; simpa using this
        have cv : I 499 (k + 1) = c := by have := hc1 1 (by omega); rw [he] at this; simpa using this
        rw [C222_4 g0 (fun _ _ => gk1) (fun _ _ => gst) (fun _ h => absurd c2 h) (fun _ h => absurd c2 h) (fun _ h => absurd c2 h) (fun _ h => absurd c2 h) (fun _ h => absurd c2 h) (fun _ h => absurd c2 h)]
        simp (decide := true) only [c2, if_true, if_false, hk1, hstn, cv]
        refine fin _ (c :: st) _ _ _ (by rw [e_n_succ]; simp) (by rw [hl2, e_n_succ, e_n_succ]) (by unfold ev1; rw [if_neg hlt, if_neg hc0]) (fun q hq => e_u_na hq) (by rw [hcH]; simp) (by simp; omega) (htail _)
end S65
