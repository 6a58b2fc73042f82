section EW
/-- the classes' numbers, the array classes' -/
abbrev e_G : Type := va_G × ClassId × ClassId × ClassId × ClassId
def e_qo (ad : Nat → Nat) (x : Nat) : Option Nat := if x = 0 then none else some (ad x)
def e_vl (ad : Nat → Nat) (σ : e_S) (a k ty : Nat) : Value := if ty = 2 then .long (e_J σ a k) else if ty = 3 then va_rf (e_qo ad (e_F σ a k)) else .int (e_I σ a k)
def e_fs (ad : Nat → Nat) (σ : e_S) (a : Nat) (tys : List Nat) : List Value := (List.range tys.length).map (fun k => e_vl ad σ a k (tys.getD k 9))
def e_en (G : e_G) (ad : Nat → Nat) (σ : e_S) (a : Nat) : va_E :=
  if (σ.2.1 a).1 = 20 then .inl (G.2.1, e_l σ a, .inl (e_I σ a))
  else if (σ.2.1 a).1 = 21 then .inl (G.2.2.1, e_l σ a, .inl (e_I σ a))
  else if (σ.2.1 a).1 = 22 then .inl (G.2.2.2.1, e_l σ a, .inr (.inl (e_J σ a)))
  else if (σ.2.1 a).1 = 23 then .inl (G.2.2.2.2, e_l σ a, .inr (.inr (.inr (.inr (fun k => e_qo ad (e_F σ a k))))))
  else .inr ((σ.2.1 a).1 - 1, e_fs ad σ a (e_cf (σ.2.1 a).1))
/-- the picture's cells, as the kit's worlds have them -/
def e_w (G : e_G) (ad : Nat → Nat) (σ : e_S) : va_W := (List.range σ.1).map (fun i => (ad (i + 1), e_en G ad σ (i + 1)))
def e_tys (G : e_G) : List (ClassId × FieldType) := [(G.2.1, .int), (G.2.2.1, .boolean), (G.2.2.2.1, .long), (G.2.2.2.2, .object RX6)]
/-- references name cells -/
def e_WF (σ : e_S) : Prop := ∀ a k, 1 ≤ a → a ≤ σ.1 → e_F σ a k = 0 ∨ e_ok σ.1 (e_F σ a k)
theorem e_k_inv {σ : e_S} {a c : Nat} (h : e_k σ a = c) (hc : c ≠ 0) : 1 ≤ a ∧ a ≤ σ.1 ∧ (σ.2.1 a).1 = c := by
  unfold e_k at h
  split at h
  · rename_i q; exact ⟨q.1, q.2, h⟩
  · exact absurd h.symm hc
theorem e_k_of {σ : e_S} {a : Nat} (h1 : 1 ≤ a) (h2 : a ≤ σ.1) : e_k σ a = (σ.2.1 a).1 := by unfold e_k; rw [if_pos ⟨h1, h2⟩]
theorem e_w_at {G : e_G} {ad : Nat → Nat} {σ : e_S} {a : Nat} (h1 : 1 ≤ a) (h2 : a ≤ σ.1) : (e_w G ad σ)[a - 1]? = some (ad a, e_en G ad σ a) := by
  unfold e_w
  rw [List.getElem?_map, List.getElem?_range (by omega)]
  show some (ad (a - 1 + 1), e_en G ad σ (a - 1 + 1)) = _
  rw [Nat.sub_add_cancel h1]
theorem e_w_len {G : e_G} {ad : Nat → Nat} {σ : e_S} : (e_w G ad σ).length = σ.1 := by simp [e_w]
theorem e_w_set {G : e_G} {ad : Nat → Nat} {σ σ' : e_S} {a : Nat} {x : va_E} (h1 : 1 ≤ a) (h2 : a ≤ σ.1) (hN : σ'.1 = σ.1) (hx : x = e_en G ad σ' a) (he : ∀ b, b ≠ a → e_en G ad σ' b = e_en G ad σ b) : (e_w G ad σ).set (a - 1) (ad a, x) = e_w G ad σ' := by
  subst hx
  apply List.ext_getElem?
  intro i
  by_cases hi : i = a - 1
  · subst hi
    rw [List.getElem?_set_self (by rw [e_w_len]; omega), e_w_at h1 (by omega)]
  · rw [List.getElem?_set_ne (fun q => hi q.symm)]
    unfold e_w
    rw [List.getElem?_map, List.getElem?_map, hN]
    by_cases hl : i < σ.1
    · rw [List.getElem?_range hl]
      show some (ad (i + 1), e_en G ad σ (i + 1)) = some (ad (i + 1), e_en G ad σ' (i + 1))
      rw [he (i + 1) (by omega)]
    · rw [List.getElem?_eq_none (by simp; omega)]
      rfl
-- what a write does to what the cells are
theorem e_en_congr {G : e_G} {ad : Nat → Nat} {σ σ' : e_S} {b : Nat} (h1 : σ'.2.1 b = σ.2.1 b) (hI : e_I σ' b = e_I σ b) (hJ : e_J σ' b = e_J σ b) (hF : e_F σ' b = e_F σ b) : e_en G ad σ' b = e_en G ad σ b := by
  unfold e_en e_fs e_vl e_l
  rw [h1, hI, hJ, hF]
theorem e_u_off {α : Type} {f : Nat → Nat → α} {a b k : Nat} {v : α} (h : b ≠ a) : e_u f a k v b = f b := by unfold e_u; rw [if_neg h]
theorem e_en_uI {G : e_G} {ad : Nat → Nat} {σ : e_S} {a b k : Nat} {v : Int32} (h : b ≠ a) : e_en G ad (e_uI σ a k v) b = e_en G ad σ b :=
  e_en_congr rfl (show e_u σ.2.2.1 a k v b = σ.2.2.1 b from e_u_off h) rfl rfl
theorem e_en_uJ {G : e_G} {ad : Nat → Nat} {σ : e_S} {a b k : Nat} {v : Int64} (h : b ≠ a) : e_en G ad (e_uJ σ a k v) b = e_en G ad σ b :=
  e_en_congr rfl rfl (show e_u σ.2.2.2.1 a k v b = σ.2.2.2.1 b from e_u_off h) rfl
theorem e_en_uF {G : e_G} {ad : Nat → Nat} {σ : e_S} {a b k v : Nat} (h : b ≠ a) : e_en G ad (e_uF σ a k v) b = e_en G ad σ b :=
  e_en_congr rfl rfl rfl (show e_u σ.2.2.2.2.1 a k v b = σ.2.2.2.2.1 b from e_u_off h)
theorem e_en_uR {G : e_G} {ad : Nat → Nat} {σ : e_S} {a b : Nat} {f : Nat → Int32} (h : b ≠ a) : e_en G ad (e_uR σ a f) b = e_en G ad σ b :=
  e_en_congr rfl (show (if b = a then f else σ.2.2.1 b) = σ.2.2.1 b from if_neg h) rfl rfl
theorem e_en_obj {G : e_G} {ad : Nat → Nat} {σ : e_S} {a c : Nat} (h : (σ.2.1 a).1 = c) (hc : c < 20) : e_en G ad σ a = .inr (c - 1, e_fs ad σ a (e_cf c)) := by
  subst h
  unfold e_en
  rw [if_neg (by omega), if_neg (by omega), if_neg (by omega), if_neg (by omega)]
theorem e_en_20 {G : e_G} {ad : Nat → Nat} {σ : e_S} {a : Nat} (h : (σ.2.1 a).1 = 20) : e_en G ad σ a = .inl (G.2.1, e_l σ a, .inl (e_I σ a)) := by unfold e_en; rw [if_pos h]
theorem e_en_21 {G : e_G} {ad : Nat → Nat} {σ : e_S} {a : Nat} (h : (σ.2.1 a).1 = 21) : e_en G ad σ a = .inl (G.2.2.1, e_l σ a, .inl (e_I σ a)) := by unfold e_en; rw [if_neg (by omega), if_pos h]
theorem e_en_22 {G : e_G} {ad : Nat → Nat} {σ : e_S} {a : Nat} (h : (σ.2.1 a).1 = 22) : e_en G ad σ a = .inl (G.2.2.2.1, e_l σ a, .inr (.inl (e_J σ a))) := by unfold e_en; rw [if_neg (by omega), if_neg (by omega), if_pos h]
theorem e_en_23 {G : e_G} {ad : Nat → Nat} {σ : e_S} {a : Nat} (h : (σ.2.1 a).1 = 23) : e_en G ad σ a = .inl (G.2.2.2.2, e_l σ a, .inr (.inr (.inr (.inr (fun k => e_qo ad (e_F σ a k)))))) := by unfold e_en; rw [if_neg (by omega), if_neg (by omega), if_neg (by omega), if_pos h]
theorem e_fs_at {ad : Nat → Nat} {σ : e_S} {a k : Nat} {tys : List Nat} (h : k < tys.length) : (e_fs ad σ a tys)[k]? = some (e_vl ad σ a k (tys.getD k 9)) := by
  unfold e_fs
  rw [List.getElem?_map, List.getElem?_range h]
  rfl
theorem e_fs_len {ad : Nat → Nat} {σ : e_S} {a : Nat} {tys : List Nat} : (e_fs ad σ a tys).length = tys.length := by simp [e_fs]
theorem e_fs_set {ad : Nat → Nat} {σ σ' : e_S} {a k : Nat} {tys : List Nat} {v : Value} (hk : k < tys.length) (hv : v = e_vl ad σ' a k (tys.getD k 9)) (ho : ∀ j, j ≠ k → e_vl ad σ' a j (tys.getD j 9) = e_vl ad σ a j (tys.getD j 9)) : (e_fs ad σ a tys).set k v = e_fs ad σ' a tys := by
  subst hv
  apply List.ext_getElem?
  intro i
  by_cases hi : i = k
  · subst hi
    rw [List.getElem?_set_self (by rw [e_fs_len]; exact hk), e_fs_at hk]
  · rw [List.getElem?_set_ne (fun q => hi q.symm)]
    by_cases hl : i < tys.length
    · rw [e_fs_at hl, e_fs_at hl, ho i hi]
    · rw [List.getElem?_eq_none (by rw [e_fs_len]; omega), List.getElem?_eq_none (by rw [e_fs_len]; omega)]
theorem e_u_same {α : Type} {f : Nat → Nat → α} {a k : Nat} {v : α} : e_u f a k v a k = v := by simp [e_u]
theorem e_u_ne {α : Type} {f : Nat → Nat → α} {a k j : Nat} {v : α} (h : j ≠ k) : e_u f a k v a j = f a j := by simp [e_u, h]
theorem e_u_row {α : Type} {f : Nat → Nat → α} {a k : Nat} {v : α} : e_u f a k v a = fun j => if j = k then v else f a j := by simp [e_u]
-- references stay good
theorem e_WF_uI {σ : e_S} {a k : Nat} {v : Int32} (h : e_WF σ) : e_WF (e_uI σ a k v) := h
theorem e_WF_uJ {σ : e_S} {a k : Nat} {v : Int64} (h : e_WF σ) : e_WF (e_uJ σ a k v) := h
theorem e_WF_uR {σ : e_S} {a : Nat} {f : Nat → Int32} (h : e_WF σ) : e_WF (e_uR σ a f) := h
theorem e_WF_exc {σ : e_S} (h : e_WF σ) : e_WF (e_exc σ) := h
theorem e_WF_uF {σ : e_S} {a k v : Nat} (h : e_WF σ) (hv : v = 0 ∨ e_ok σ.1 v) : e_WF (e_uF σ a k v) := by
  intro b j h1 h2
  show e_u σ.2.2.2.2.1 a k v b j = 0 ∨ e_ok σ.1 (e_u σ.2.2.2.2.1 a k v b j)
  unfold e_u
  by_cases hb : b = a
  · subst hb
    rw [if_pos rfl]
    by_cases hj : j = k
    · rw [if_pos hj]; exact hv
    · rw [if_neg hj]; exact h b j h1 h2
  · rw [if_neg hb]; exact h b j h1 h2
theorem e_WF_new {σ : e_S} {kd len n : Nat} (h : e_WF σ) : e_WF (e_new σ kd len n) := by
  intro b j h1 h2
  show e_z σ.2.2.2.2.1 (σ.1 + 1) 0 b j = 0 ∨ e_ok (σ.1 + 1) (e_z σ.2.2.2.2.1 (σ.1 + 1) 0 b j)
  unfold e_z
  by_cases hb : b = σ.1 + 1
  · rw [if_pos hb]; exact Or.inl rfl
  · rw [if_neg hb]
    have h2' : b ≤ σ.1 + 1 := h2
    rcases h b j h1 (by omega) with q | q
    · exact Or.inl q
    · exact Or.inr (e_ok_up (Nat.le_succ _) q)
/-- the cells behind 'new': one more -/
theorem e_w_new {G : e_G} {ad ad' : Nat → Nat} {σ : e_S} {kd len n q : Nat} {x : va_E} (hw : e_WF σ) (hN : σ.1 ≤ 900000) (ha : ∀ a, a ≠ σ.1 + 1 → ad' a = ad a) (hq : ad' (σ.1 + 1) = q) (hx : x = e_en G ad' (e_new σ kd len n) (σ.1 + 1)) : e_w G ad σ ++ [(q, x)] = e_w G ad' (e_new σ kd len n) := by
  subst hx
  unfold e_w
  show _ = (List.range (σ.1 + 1)).map _
  rw [List.range_succ, List.map_append, List.map_singleton, hq]
  congr 1
  apply List.map_congr_left
  intro i hi
  have hl : i < σ.1 := List.mem_range.mp hi
  have hz : ∀ (α : Type) (f : Nat → Nat → α) (v : α), e_z f (σ.1 + 1) v (i + 1) = f (i + 1) := fun α f v => by unfold e_z; rw [if_neg (by omega)]
  have hF : ∀ k, e_qo ad' (e_F σ (i + 1) k) = e_qo ad (e_F σ (i + 1) k) := by
    intro k
    unfold e_qo
    rcases hw (i + 1) k (by omega) (by omega) with h0 | h0
    · rw [if_pos h0, if_pos h0]
    · rw [ha _ (by unfold e_ok at h0; omega)]
  rw [ha (i + 1) (by omega)]
  congr 1
  have hF' : (fun k => e_qo ad (e_F σ (i + 1) k)) = fun k => e_qo ad' (e_F σ (i + 1) k) := funext fun k => (hF k).symm
  have hsh : (e_new σ kd len n).2.1 (i + 1) = σ.2.1 (i + 1) := by
    show (if i + 1 = σ.1 + 1 then (kd, len) else σ.2.1 (i + 1)) = _
    rw [if_neg (by omega)]
  have hI : e_I (e_new σ kd len n) (i + 1) = e_I σ (i + 1) := by funext j; exact congrFun (hz _ σ.2.2.1 0) j
  have hJ : e_J (e_new σ kd len n) (i + 1) = e_J σ (i + 1) := by funext j; exact congrFun (hz _ σ.2.2.2.1 0) j
  have hFF : e_F (e_new σ kd len n) (i + 1) = e_F σ (i + 1) := by funext j; exact congrFun (hz _ σ.2.2.2.2.1 0) j
  unfold e_en e_fs e_vl e_l
  rw [hsh, hI, hJ, hFF]
  simp only [hF]
end EW
