section C44
theorem kdb2 {b : Nat} (hb : B2 b) : kd (b + 2) = 20 := by rcases hb with rfl | rfl <;> rfl
theorem kdb3 {b : Nat} (hb : B2 b) : kd (b + 3) = 20 := by rcases hb with rfl | rfl <;> rfl
theorem kdb4 {b : Nat} (hb : B2 b) : kd (b + 4) = 20 := by rcases hb with rfl | rfl <;> rfl
theorem kdb5 {b : Nat} (hb : B2 b) : kd (b + 5) = 20 := by rcases hb with rfl | rfl <;> rfl
theorem kdb6 {b : Nat} (hb : B2 b) : kd (b + 6) = 20 := by rcases hb with rfl | rfl <;> rfl
theorem kdb7 {b : Nat} (hb : B2 b) : kd (b + 7) = 20 := by rcases hb with rfl | rfl <;> rfl
theorem kdb9 {b : Nat} (hb : B2 b) : kd (b + 9) = 20 := by rcases hb with rfl | rfl <;> rfl
theorem kdb10 {b : Nat} (hb : B2 b) : kd (b + 10) = 20 := by rcases hb with rfl | rfl <;> rfl
theorem kdb11 {b : Nat} (hb : B2 b) : kd (b + 11) = 20 := by rcases hb with rfl | rfl <;> rfl
theorem kdb12 {b : Nat} (hb : B2 b) : kd (b + 12) = 20 := by rcases hb with rfl | rfl <;> rfl
theorem kdb13 {b : Nat} (hb : B2 b) : kd (b + 13) = 20 := by rcases hb with rfl | rfl <;> rfl
theorem kdb14 {b : Nat} (hb : B2 b) : kd (b + 14) = 20 := by rcases hb with rfl | rfl <;> rfl
theorem kdb15 {b : Nat} (hb : B2 b) : kd (b + 15) = 20 := by rcases hb with rfl | rfl <;> rfl
theorem kdb16 {b : Nat} (hb : B2 b) : kd (b + 16) = 20 := by rcases hb with rfl | rfl <;> rfl
theorem kdb17 {b : Nat} (hb : B2 b) : kd (b + 17) = 20 := by rcases hb with rfl | rfl <;> rfl
theorem kdb18 {b : Nat} (hb : B2 b) : kd (b + 18) = 20 := by rcases hb with rfl | rfl <;> rfl
theorem kdb19 {b : Nat} (hb : B2 b) : kd (b + 19) = 20 := by rcases hb with rfl | rfl <;> rfl
theorem kda1 {a : Nat} (ha : M3 a) : kd (a + 1) = 20 := by rcases ha with rfl | rfl | rfl <;> rfl
theorem kda2 {a : Nat} (ha : M3 a) : kd (a + 2) = 20 := by rcases ha with rfl | rfl | rfl <;> rfl
theorem kda3 {a : Nat} (ha : M3 a) : kd (a + 3) = 20 := by rcases ha with rfl | rfl | rfl <;> rfl
theorem kda4 {a : Nat} (ha : M3 a) : kd (a + 4) = 20 := by rcases ha with rfl | rfl | rfl <;> rfl
theorem kdt7 {t : Nat} (ht : T2 t) : kd (t + 7) = 20 := by rcases ht with rfl | rfl <;> rfl
theorem kdt8 {t : Nat} (ht : T2 t) : kd (t + 8) = 20 := by rcases ht with rfl | rfl <;> rfl
theorem kdt9 {t : Nat} (ht : T2 t) : kd (t + 9) = 20 := by rcases ht with rfl | rfl <;> rfl
theorem kdr {r : Nat} (hr : R2 r) : kd r = 20 := by rcases hr with rfl | rfl <;> rfl
theorem kd_txa (z : e_Z) : kd (txa z) = 20 := by rcases z with ⟨J, ⟨s, rb, fb, _ | _⟩, cs, X⟩ <;> rfl
/-- f i, f (i + 1) .., n times -/
def itr {α : Type} (f : Nat → α → α) : Nat → Nat → α → α
  | 0, _, s => s
  | n + 1, i, s => itr f n (i + 1) (f i s)
theorem itr_succ {α : Type} (f : Nat → α → α) : ∀ n i s, itr f (n + 1) i s = f (i + n) (itr f n i s)
  | 0, _, _ => rfl
  | n + 1, i, s => by
    show itr f (n + 1) (i + 1) (f i s) = _
    rw [itr_succ f n (i + 1) (f i s), show i + 1 + n = i + (n + 1) by omega]; rfl
theorem loopI {α : Type} (X : Int32 → α → e_X) (n : Nat) (hn : n < 2147483648) (f : Nat → α → α) (step : ∀ i a, i < n → X (e_n (i : Nat)) a = X (e_n (i : Nat) + e_n 1) (f i a)) (a : α) : X (e_n 0) a = X (e_n (n : Nat)) (itr f n 0 a) := by
  have h : ∀ k i a, i + k = n → X (e_n (i : Nat)) a = X (e_n (n : Nat)) (itr f k i a) := by
    intro k
    induction k with
    | zero => intro i a hi; rw [show i = n by omega]; rfl
    | succ k ih =>
      intro i a hi
      rw [step i a (by omega), e_n_add]
      exact ih (i + 1) (f i a) (by omega)
  exact h n 0 a (by omega)
theorem lt_b {B : Int32} {i : Nat} (h : i < B.toNatClampNeg) : e_n (i : Nat) < B := by
  have h2 := Int32.toNatClampNeg_lt B
  rw [Int32.lt_iff_toInt_lt, e_n_toInt (by omega) (by omega)]
  rw [← Int32.toNat_toInt] at h
  omega
theorem nlt_b (B : Int32) : ¬ e_n (B.toNatClampNeg : Nat) < B := by
  have h2 := Int32.toNatClampNeg_lt B
  rw [Int32.lt_iff_toInt_lt, e_n_toInt (by omega) (by omega)]
  rw [← Int32.toNat_toInt]
  omega
theorem lt_k {k : Nat} {i : Nat} (h : i < k) (hk : k < 2147483648) : e_n (i : Nat) < e_n (k : Nat) := by
  rw [e_n_lt (by omega) (by omega) (by omega) (by omega)]; omega
theorem nlt_k {k : Nat} (hk : k < 2147483648) : ¬ e_n (k : Nat) < e_n (k : Nat) := by
  rw [e_n_lt (by omega) (by omega) (by omega) (by omega)]; omega
set_option maxRecDepth 20000 in
theorem C173_0 {d : Nat} {I : Nat → Nat → Int32} {z : e_Z} {x0 : Int32}  : e_L d 173 0 [.int x0] [] (mk I z) = (some (.inl (some (.int (e_shl (e_n 1) x0))), mk I z)) := by
  refine (B173_0).trans ?_
  all_goals first | with_reducible rfl | simp only [e_rI_i, e_rJ_l, e_rF_r, e_rV_n, e_rI_t, e_rV_t, e_rI_ite, e_rV_ite, e_cc_eq, e_cc_ne, e_cc_lt, e_cc_ge, e_cc_gt, e_cc_le, tf_eq0, tf_ne0, tf01, e_sel_c, e_sel_n, e_exc_mk, ite_not, Decidable.not_not, not_true_eq_false, not_false_eq_true, if_true, if_false, ite_true, ite_false, true_and, and_true, false_and, and_false, true_or, or_true, false_or, or_false, eq_self, en_00, en_10, en_n0, en01, and_self, or_self, ite_self, tf_T, tf_F, (eH11 173 rfl rfl), *]
theorem c173 {d : Nat} {I : Nat → Nat → Int32} {z : e_Z} {x0 : Int32}  : e_E (d + 1) 173 [.int x0] (mk I z) = (some (.inl (some (.int (e_shl (e_n 1) x0))), mk I z)) := e_E_ret (d := d) (C173_0 )
set_option maxRecDepth 20000 in
theorem C174_0 {d : Nat} {I : Nat → Nat → Int32} {z : e_Z} {x0 x1 : Int32}  : e_L (d + 1) 174 0 [.int x0, .int x1] [] (mk I z) = (some (.inl (some (.int (tf (¬ (x0 &&& (e_shl (e_n 1) x1) = 0))))), mk I z)) := by
  refine (B174_0).trans ?_
  refine (Classical.em (x0 &&& (e_shl (e_n 1) x1) = 0)).elim (fun h_0 => ?_) (fun h_0 => ?_)
  all_goals first | with_reducible rfl | simp only [B174_5, B174_14, c173, e_rI_i, e_rJ_l, e_rF_r, e_rV_n, e_rI_t, e_rV_t, e_rI_ite, e_rV_ite, e_cc_eq, e_cc_ne, e_cc_lt, e_cc_ge, e_cc_gt, e_cc_le, tf_eq0, tf_ne0, tf01, e_sel_c, e_sel_n, e_exc_mk, ite_not, Decidable.not_not, not_true_eq_false, not_false_eq_true, if_true, if_false, ite_true, ite_false, true_and, and_true, false_and, and_false, true_or, or_true, false_or, or_false, eq_self, en_00, en_10, en_n0, en01, and_self, or_self, ite_self, tf_T, tf_F, (eH11 174 rfl rfl), *]
theorem c174 {d : Nat} {I : Nat → Nat → Int32} {z : e_Z} {x0 x1 : Int32}  : e_E (d + 2) 174 [.int x0, .int x1] (mk I z) = (some (.inl (some (.int (tf (¬ (x0 &&& (e_shl (e_n 1) x1) = 0))))), mk I z)) := e_E_ret (d := (d + 1)) (C174_0 )
set_option maxRecDepth 20000 in
theorem C28_0 {d : Nat} {I : Nat → Nat → Int32} {z : e_Z} {b : Nat} {x1 : Int32} (hb : B2 b) : e_L (d + 1) 28 0 [.ref (b + 1), .int x1] [] (mk I z) = (some (.inl (some (.int (tf (rd I (b + 2) x1 = e_n (-1))))), mk I z)) := by
  refine (B28_0 hb).trans ?_
  refine (Classical.em (rd I (b + 2) x1 = e_n (-1))).elim (fun h_0 => ?_) (fun h_0 => ?_)
  all_goals first | with_reducible rfl | simp only [B28_8, B28_17, c169 (kdb2 hb), e_rI_i, e_rJ_l, e_rF_r, e_rV_n, e_rI_t, e_rV_t, e_rI_ite, e_rV_ite, e_cc_eq, e_cc_ne, e_cc_lt, e_cc_ge, e_cc_gt, e_cc_le, tf_eq0, tf_ne0, tf01, e_sel_c, e_sel_n, e_exc_mk, ite_not, Decidable.not_not, not_true_eq_false, not_false_eq_true, if_true, if_false, ite_true, ite_false, true_and, and_true, false_and, and_false, true_or, or_true, false_or, or_false, eq_self, en_00, en_10, en_n0, en01, and_self, or_self, ite_self, tf_T, tf_F, *]
theorem c28 {d : Nat} {I : Nat → Nat → Int32} {z : e_Z} {b : Nat} {x1 : Int32} (hb : B2 b) : e_E (d + 2) 28 [.ref (b + 1), .int x1] (mk I z) = (some (.inl (some (.int (tf (rd I (b + 2) x1 = e_n (-1))))), mk I z)) := e_E_ret (d := (d + 1)) (C28_0 hb)
set_option maxRecDepth 20000 in
theorem C30_0 {d : Nat} {I : Nat → Nat → Int32} {z : e_Z} {b : Nat} {x1 x2 x3 : Int32} (hb : B2 b) : e_L (d + 1) 30 0 [.ref (b + 1), .int x1, .int x2, .int x3] [] (mk I z) = (some (.inl (some (.int (tf ((x1 = x3) ∨ (x2 < rd I (b + 5) x1))))), mk I z)) := by
  refine (B30_0 hb).trans ?_
  refine (Classical.em (x1 = x3)).elim (fun h_0 => ?_) (fun h_0 => (Classical.em (x2 < rd I (b + 5) x1)).elim (fun h_1 => ?_) (fun h_1 => ?_))
  all_goals first | with_reducible rfl | simp only [B30_17, B30_22, B30_14, c169 (kdb5 hb), e_rI_i, e_rJ_l, e_rF_r, e_rV_n, e_rI_t, e_rV_t, e_rI_ite, e_rV_ite, e_cc_eq, e_cc_ne, e_cc_lt, e_cc_ge, e_cc_gt, e_cc_le, tf_eq0, tf_ne0, tf01, e_sel_c, e_sel_n, e_exc_mk, ite_not, Decidable.not_not, not_true_eq_false, not_false_eq_true, if_true, if_false, ite_true, ite_false, true_and, and_true, false_and, and_false, true_or, or_true, false_or, or_false, eq_self, en_00, en_10, en_n0, en01, and_self, or_self, ite_self, tf_T, tf_F, *]
theorem c30 {d : Nat} {I : Nat → Nat → Int32} {z : e_Z} {b : Nat} {x1 x2 x3 : Int32} (hb : B2 b) : e_E (d + 2) 30 [.ref (b + 1), .int x1, .int x2, .int x3] (mk I z) = (some (.inl (some (.int (tf ((x1 = x3) ∨ (x2 < rd I (b + 5) x1))))), mk I z)) := e_E_ret (d := (d + 1)) (C30_0 hb)
set_option maxRecDepth 20000 in
theorem C31_0 {d : Nat} {I : Nat → Nat → Int32} {z : e_Z} {b : Nat} {x1 x2 : Int32} (hb : B2 b) : e_L (d + 1) 31 0 [.ref (b + 1), .int x1, .int x2] [] (mk I z) = (some (.inl (some (.int (if rd I (b + 3) x1 = x2 then rd I (b + 4) x1 else if rd I (b + 4) x1 = x2 then rd I (b + 3) x1 else e_n (-1)))), mk I z)) := by
  refine (B31_0 hb).trans ?_
  refine (Classical.em (rd I (b + 3) x1 = x2)).elim (fun h_0 => ?_) (fun h_0 => (Classical.em (rd I (b + 4) x1 = x2)).elim (fun h_1 => ?_) (fun h_1 => ?_))
  all_goals first | with_reducible rfl | simp only [B31_8 hb, B31_20, B31_29 hb, B31_41, B31_45, c169 (kdb3 hb), c169 (kdb4 hb), e_rI_i, e_rJ_l, e_rF_r, e_rV_n, e_rI_t, e_rV_t, e_rI_ite, e_rV_ite, e_cc_eq, e_cc_ne, e_cc_lt, e_cc_ge, e_cc_gt, e_cc_le, tf_eq0, tf_ne0, tf01, e_sel_c, e_sel_n, e_exc_mk, ite_not, Decidable.not_not, not_true_eq_false, not_false_eq_true, if_true, if_false, ite_true, ite_false, true_and, and_true, false_and, and_false, true_or, or_true, false_or, or_false, eq_self, en_00, en_10, en_n0, en01, and_self, or_self, ite_self, tf_T, tf_F, *]
theorem c31 {d : Nat} {I : Nat → Nat → Int32} {z : e_Z} {b : Nat} {x1 x2 : Int32} (hb : B2 b) : e_E (d + 2) 31 [.ref (b + 1), .int x1, .int x2] (mk I z) = (some (.inl (some (.int (if rd I (b + 3) x1 = x2 then rd I (b + 4) x1 else if rd I (b + 4) x1 = x2 then rd I (b + 3) x1 else e_n (-1)))), mk I z)) := e_E_ret (d := (d + 1)) (C31_0 hb)
set_option maxRecDepth 20000 in
theorem C33_0 {d : Nat} {I : Nat → Nat → Int32} {z : e_Z} {b : Nat} {x1 x2 x3 : Int32} (hb : B2 b) : e_L (d + 2) 33 0 [.ref (b + 1), .int x1, .int x2, .int x3] [] (mk I z) = (some (.inl (some (.int (tf (¬ (rd I (b + 2) x1 = e_n (-1)) ∧ ¬ (x2 = e_n (-1)) ∧ ¬ (x3 < x2) ∧ ¬ (((rd I (b + 2) x1) + x3) - x2 < e_n 10))))), mk I z)) := by
  refine (B33_0 hb).trans ?_
  refine (Classical.em ((rd I (b + 2) x1 = e_n (-1)))).elim (fun h_0 => ?_) (fun h_0 => (Classical.em (x2 = e_n (-1))).elim (fun h_1 => ?_) (fun h_1 => (Classical.em (x3 < x2)).elim (fun h_2 => ?_) (fun h_2 => (Classical.em (((rd I (b + 2) x1) + x3) - x2 < e_n 10)).elim (fun h_3 => ?_) (fun h_3 => ?_))))
  all_goals first | with_reducible rfl | simp only [B33_5 hb, B33_18, B33_28, B33_42, c28 hb, c169 (kdb2 hb), e_rI_i, e_rJ_l, e_rF_r, e_rV_n, e_rI_t, e_rV_t, e_rI_ite, e_rV_ite, e_cc_eq, e_cc_ne, e_cc_lt, e_cc_ge, e_cc_gt, e_cc_le, tf_eq0, tf_ne0, tf01, e_sel_c, e_sel_n, e_exc_mk, ite_not, Decidable.not_not, not_true_eq_false, not_false_eq_true, if_true, if_false, ite_true, ite_false, true_and, and_true, false_and, and_false, true_or, or_true, false_or, or_false, eq_self, en_00, en_10, en_n0, en01, and_self, or_self, ite_self, tf_T, tf_F, *]
theorem c33 {d : Nat} {I : Nat → Nat → Int32} {z : e_Z} {b : Nat} {x1 x2 x3 : Int32} (hb : B2 b) : e_E (d + 3) 33 [.ref (b + 1), .int x1, .int x2, .int x3] (mk I z) = (some (.inl (some (.int (tf (¬ (rd I (b + 2) x1 = e_n (-1)) ∧ ¬ (x2 = e_n (-1)) ∧ ¬ (x3 < x2) ∧ ¬ (((rd I (b + 2) x1) + x3) - x2 < e_n 10))))), mk I z)) := e_E_ret (d := (d + 2)) (C33_0 hb)
set_option maxRecDepth 20000 in
theorem C32_0 {d : Nat} {I : Nat → Nat → Int32} {z : e_Z} {b : Nat} {x1 x2 x3 : Int32} (hb : B2 b) : e_L (d + 2) 32 0 [.ref (b + 1), .int x1, .int x2, .int x3, .null, .null] [] (mk I z) = (e_L (d + 2) 32 6 [.ref (b + 1), .int x1, .int x2, .int x3, .int (e_n 0), .int (e_n 0)] [] (mk I z)) := by
  refine (B32_0).trans ?_
  all_goals first | with_reducible rfl | simp only [e_rI_i, e_rJ_l, e_rF_r, e_rV_n, e_rI_t, e_rV_t, e_rI_ite, e_rV_ite, e_cc_eq, e_cc_ne, e_cc_lt, e_cc_ge, e_cc_gt, e_cc_le, tf_eq0, tf_ne0, tf01, e_sel_c, e_sel_n, e_exc_mk, ite_not, Decidable.not_not, not_true_eq_false, not_false_eq_true, if_true, if_false, ite_true, ite_false, true_and, and_true, false_and, and_false, true_or, or_true, false_or, or_false, eq_self, en_00, en_10, en_n0, en01, and_self, or_self, ite_self, tf_T, tf_F, *]
set_option maxRecDepth 20000 in
theorem C32_6 {d : Nat} {I : Nat → Nat → Int32} {z : e_Z} {b : Nat} {x1 x2 x3 x4 x5 : Int32} (hb : B2 b) : e_L (d + 2) 32 6 [.ref (b + 1), .int x1, .int x2, .int x3, .int x4, .int x5] [] (mk I z) = (if x5 < I (b + 1) 1 then (e_L (d + 2) 32 6 [.ref (b + 1), .int x1, .int x2, .int x3, .int (if ((x5 = x3) ∨ (x2 < rd I (b + 5) x5)) then (x4 ||| (if (¬ (x1 &&& (e_shl (e_n 1) (rd I (b + 3) x5)) = 0)) then e_shl (e_n 1) (rd I (b + 4) x5) else e_n 0)) ||| (if (¬ (x1 &&& (e_shl (e_n 1) (rd I (b + 4) x5)) = 0)) then e_shl (e_n 1) (rd I (b + 3) x5) else e_n 0) else x4), .int (x5 + e_n 1)] [] (mk I z)) else (some (.inl (some (.int x4)), mk I z))) := by
  refine (B32_6 hb).trans ?_
  refine (Classical.em (x5 < I (b + 1) 1)).elim (fun h_0 => (Classical.em (((x5 = x3) ∨ (x2 < rd I (b + 5) x5)))).elim (fun h_1 => (Classical.em ((¬ (x1 &&& (e_shl (e_n 1) (rd I (b + 3) x5)) = 0)))).elim (fun h_2 => (Classical.em ((¬ (x1 &&& (e_shl (e_n 1) (rd I (b + 4) x5)) = 0)))).elim (fun h_3 => ?_) (fun h_3 => ?_)) (fun h_2 => (Classical.em ((¬ (x1 &&& (e_shl (e_n 1) (rd I (b + 4) x5)) = 0)))).elim (fun h_4 => ?_) (fun h_4 => ?_))) (fun h_1 => ?_)) (fun h_0 => ?_)
  all_goals first | with_reducible rfl | simp only [B32_23 hb, B32_38, B32_41 hb, B32_53, B32_56, B32_60 hb, B32_75, B32_78 hb, B32_90, B32_93, B32_97, B32_100, c30 hb, c169 (kdb3 hb), c174, c169 (kdb4 hb), c173, e_rI_i, e_rJ_l, e_rF_r, e_rV_n, e_rI_t, e_rV_t, e_rI_ite, e_rV_ite, e_cc_eq, e_cc_ne, e_cc_lt, e_cc_ge, e_cc_gt, e_cc_le, tf_eq0, tf_ne0, tf01, e_sel_c, e_sel_n, e_exc_mk, ite_not, Decidable.not_not, not_true_eq_false, not_false_eq_true, if_true, if_false, ite_true, ite_false, true_and, and_true, false_and, and_false, true_or, or_true, false_or, or_false, eq_self, en_00, en_10, en_n0, en01, and_self, or_self, ite_self, tf_T, tf_F, *]
theorem c32 {d : Nat} {I : Nat → Nat → Int32} {z : e_Z} {b : Nat} {x1 x2 x3 : Int32} (hb : B2 b) : e_E (d + 3) 32 [.ref (b + 1), .int x1, .int x2, .int x3] (mk I z) = some (.inl (some (.int (itr (fun i x4 => if (((e_n (i : Nat)) = x3) ∨ (x2 < rd I (b + 5) (e_n (i : Nat)))) then (x4 ||| (if (¬ (x1 &&& (e_shl (e_n 1) (rd I (b + 3) (e_n (i : Nat)))) = 0)) then e_shl (e_n 1) (rd I (b + 4) (e_n (i : Nat))) else e_n 0)) ||| (if (¬ (x1 &&& (e_shl (e_n 1) (rd I (b + 4) (e_n (i : Nat)))) = 0)) then e_shl (e_n 1) (rd I (b + 3) (e_n (i : Nat))) else e_n 0) else x4) ((I (b + 1) 1).toNatClampNeg) 0 (e_n 0)))), mk I z) := e_E_ret (d := (d + 2)) ((C32_0 hb).trans ((loopI (fun (i x4 : Int32) => e_L (d + 2) 32 6 [.ref (b + 1), .int x1, .int x2, .int x3, .int x4, .int i] [] (mk I z)) ((I (b + 1) 1).toNatClampNeg) (Int32.toNatClampNeg_lt _) (fun i x4 => if (((e_n (i : Nat)) = x3) ∨ (x2 < rd I (b + 5) (e_n (i : Nat)))) then (x4 ||| (if (¬ (x1 &&& (e_shl (e_n 1) (rd I (b + 3) (e_n (i : Nat)))) = 0)) then e_shl (e_n 1) (rd I (b + 4) (e_n (i : Nat))) else e_n 0)) ||| (if (¬ (x1 &&& (e_shl (e_n 1) (rd I (b + 4) (e_n (i : Nat)))) = 0)) then e_shl (e_n 1) (rd I (b + 3) (e_n (i : Nat))) else e_n 0) else x4) (fun i a hi => (C32_6 hb).trans (if_pos (lt_b hi))) (e_n 0)).trans ((C32_6 hb).trans (if_neg (nlt_b _)))))
set_option maxRecDepth 20000 in
theorem C29_0 {d : Nat} {I : Nat → Nat → Int32} {z : e_Z} {b : Nat} (hb : B2 b) : e_L (d + 2) 29 0 [.ref (b + 1), .null, .null] [] (mk I z) = (e_L (d + 2) 29 4 [.ref (b + 1), .int (e_n 0), .int (e_n 0)] [] (mk I z)) := by
  refine (B29_0).trans ?_
  all_goals first | with_reducible rfl | simp only [e_rI_i, e_rJ_l, e_rF_r, e_rV_n, e_rI_t, e_rV_t, e_rI_ite, e_rV_ite, e_cc_eq, e_cc_ne, e_cc_lt, e_cc_ge, e_cc_gt, e_cc_le, tf_eq0, tf_ne0, tf01, e_sel_c, e_sel_n, e_exc_mk, ite_not, Decidable.not_not, not_true_eq_false, not_false_eq_true, if_true, if_false, ite_true, ite_false, true_and, and_true, false_and, and_false, true_or, or_true, false_or, or_false, eq_self, en_00, en_10, en_n0, en01, and_self, or_self, ite_self, tf_T, tf_F, *]
set_option maxRecDepth 20000 in
theorem C29_4 {d : Nat} {I : Nat → Nat → Int32} {z : e_Z} {b : Nat} {x1 x2 : Int32} (hb : B2 b) : e_L (d + 2) 29 4 [.ref (b + 1), .int x1, .int x2] [] (mk I z) = (if x2 < I (b + 1) 0 then (e_L (d + 2) 29 4 [.ref (b + 1), .int (if (rd I (b + 2) x2 = e_n (-1)) then x1 ||| (e_shl (e_n 1) x2) else x1), .int (x2 + e_n 1)] [] (mk I z)) else (some (.inl (some (.int x1)), mk I z))) := by
  refine (B29_4 hb).trans ?_
  refine (Classical.em (x2 < I (b + 1) 0)).elim (fun h_0 => (Classical.em ((rd I (b + 2) x2 = e_n (-1)))).elim (fun h_1 => ?_) (fun h_1 => ?_)) (fun h_0 => ?_)
  all_goals first | with_reducible rfl | simp only [B29_17, B29_25, B29_27, c28 hb, c173, e_rI_i, e_rJ_l, e_rF_r, e_rV_n, e_rI_t, e_rV_t, e_rI_ite, e_rV_ite, e_cc_eq, e_cc_ne, e_cc_lt, e_cc_ge, e_cc_gt, e_cc_le, tf_eq0, tf_ne0, tf01, e_sel_c, e_sel_n, e_exc_mk, ite_not, Decidable.not_not, not_true_eq_false, not_false_eq_true, if_true, if_false, ite_true, ite_false, true_and, and_true, false_and, and_false, true_or, or_true, false_or, or_false, eq_self, en_00, en_10, en_n0, en01, and_self, or_self, ite_self, tf_T, tf_F, *]
theorem c29 {d : Nat} {I : Nat → Nat → Int32} {z : e_Z} {b : Nat} (hb : B2 b) : e_E (d + 3) 29 [.ref (b + 1)] (mk I z) = some (.inl (some (.int (itr (fun i x1 => if (rd I (b + 2) (e_n (i : Nat)) = e_n (-1)) then x1 ||| (e_shl (e_n 1) (e_n (i : Nat))) else x1) ((I (b + 1) 0).toNatClampNeg) 0 (e_n 0)))), mk I z) := e_E_ret (d := (d + 2)) ((C29_0 hb).trans ((loopI (fun (i x1 : Int32) => e_L (d + 2) 29 4 [.ref (b + 1), .int x1, .int i] [] (mk I z)) ((I (b + 1) 0).toNatClampNeg) (Int32.toNatClampNeg_lt _) (fun i x1 => if (rd I (b + 2) (e_n (i : Nat)) = e_n (-1)) then x1 ||| (e_shl (e_n 1) (e_n (i : Nat))) else x1) (fun i a hi => (C29_4 hb).trans (if_pos (lt_b hi))) (e_n 0)).trans ((C29_4 hb).trans (if_neg (nlt_b _)))))
set_option maxRecDepth 20000 in
theorem C35_0 {d : Nat} {I : Nat → Nat → Int32} {z : e_Z} {b : Nat} {x1 x2 x3 : Int32} (hb : B2 b) : e_L (d + 3) 35 0 [.ref (b + 1), .int x1, .int x2, .int x3, .null, .null] [] (mk I z) = (e_L (d + 3) 35 6 [.ref (b + 1), .int x1, .int x2, .int x3, .int x1, .int (e_n 0)] [] (mk I z)) := by
  refine (B35_0).trans ?_
  all_goals first | with_reducible rfl | simp only [e_rI_i, e_rJ_l, e_rF_r, e_rV_n, e_rI_t, e_rV_t, e_rI_ite, e_rV_ite, e_cc_eq, e_cc_ne, e_cc_lt, e_cc_ge, e_cc_gt, e_cc_le, tf_eq0, tf_ne0, tf01, e_sel_c, e_sel_n, e_exc_mk, ite_not, Decidable.not_not, not_true_eq_false, not_false_eq_true, if_true, if_false, ite_true, ite_false, true_and, and_true, false_and, and_false, true_or, or_true, false_or, or_false, eq_self, en_00, en_10, en_n0, en01, and_self, or_self, ite_self, tf_T, tf_F, *]
set_option maxRecDepth 20000 in
theorem C35_6 {d : Nat} {I : Nat → Nat → Int32} {z : e_Z} {b : Nat} {x1 x2 x3 x4 x5 : Int32} (hb : B2 b) : e_L (d + 3) 35 6 [.ref (b + 1), .int x1, .int x2, .int x3, .int x4, .int x5] [] (mk I z) = (if x5 < I (b + 1) 0 then (e_L (d + 3) 35 6 [.ref (b + 1), .int x1, .int x2, .int x3, .int (if (¬ (rd I (b + 2) x5 = e_n (-1)) ∧ ¬ (x2 = e_n (-1)) ∧ ¬ (x3 < x2) ∧ ¬ (((rd I (b + 2) x5) + x3) - x2 < e_n 10)) then x4 &&& ((e_shl (e_n 1) x5) ^^^ (e_n (-1))) else x4), .int (x5 + e_n 1)] [] (mk I z)) else (some (.inl (some (.int x4)), mk I z))) := by
  refine (B35_6 hb).trans ?_
  refine (Classical.em (x5 < I (b + 1) 0)).elim (fun h_0 => (Classical.em ((¬ (rd I (b + 2) x5 = e_n (-1)) ∧ ¬ (x2 = e_n (-1)) ∧ ¬ (x3 < x2) ∧ ¬ (((rd I (b + 2) x5) + x3) - x2 < e_n 10)))).elim (fun h_1 => ?_) (fun h_1 => ?_)) (fun h_0 => ?_)
  all_goals first | with_reducible rfl | simp only [B35_23, B35_33, B35_38, c33 hb, c173, e_rI_i, e_rJ_l, e_rF_r, e_rV_n, e_rI_t, e_rV_t, e_rI_ite, e_rV_ite, e_cc_eq, e_cc_ne, e_cc_lt, e_cc_ge, e_cc_gt, e_cc_le, tf_eq0, tf_ne0, tf01, e_sel_c, e_sel_n, e_exc_mk, ite_not, Decidable.not_not, not_true_eq_false, not_false_eq_true, if_true, if_false, ite_true, ite_false, true_and, and_true, false_and, and_false, true_or, or_true, false_or, or_false, eq_self, en_00, en_10, en_n0, en01, and_self, or_self, ite_self, tf_T, tf_F, *]
theorem c35 {d : Nat} {I : Nat → Nat → Int32} {z : e_Z} {b : Nat} {x1 x2 x3 : Int32} (hb : B2 b) : e_E (d + 4) 35 [.ref (b + 1), .int x1, .int x2, .int x3] (mk I z) = some (.inl (some (.int (itr (fun i x4 => if (¬ (rd I (b + 2) (e_n (i : Nat)) = e_n (-1)) ∧ ¬ (x2 = e_n (-1)) ∧ ¬ (x3 < x2) ∧ ¬ (((rd I (b + 2) (e_n (i : Nat))) + x3) - x2 < e_n 10)) then x4 &&& ((e_shl (e_n 1) (e_n (i : Nat))) ^^^ (e_n (-1))) else x4) ((I (b + 1) 0).toNatClampNeg) 0 x1))), mk I z) := e_E_ret (d := (d + 3)) ((C35_0 hb).trans ((loopI (fun (i x4 : Int32) => e_L (d + 3) 35 6 [.ref (b + 1), .int x1, .int x2, .int x3, .int x4, .int i] [] (mk I z)) ((I (b + 1) 0).toNatClampNeg) (Int32.toNatClampNeg_lt _) (fun i x4 => if (¬ (rd I (b + 2) (e_n (i : Nat)) = e_n (-1)) ∧ ¬ (x2 = e_n (-1)) ∧ ¬ (x3 < x2) ∧ ¬ (((rd I (b + 2) (e_n (i : Nat))) + x3) - x2 < e_n 10)) then x4 &&& ((e_shl (e_n 1) (e_n (i : Nat))) ^^^ (e_n (-1))) else x4) (fun i a hi => (C35_6 hb).trans (if_pos (lt_b hi))) x1).trans ((C35_6 hb).trans (if_neg (nlt_b _)))))
set_option maxRecDepth 20000 in
theorem C7_0 {d : Nat} {I : Nat → Nat → Int32} {z : e_Z} {b : Nat} {x1 : Int32} (hb : B2 b) : e_L (d + 2) 7 0 [.ref b, .int x1, .null, .null] [] (mk I z) = (e_L (d + 2) 7 4 [.ref b, .int x1, .int (e_n 0), .int (e_n 0)] [] (mk I z)) := by
  refine (B7_0).trans ?_
  all_goals first | with_reducible rfl | simp only [e_rI_i, e_rJ_l, e_rF_r, e_rV_n, e_rI_t, e_rV_t, e_rI_ite, e_rV_ite, e_cc_eq, e_cc_ne, e_cc_lt, e_cc_ge, e_cc_gt, e_cc_le, tf_eq0, tf_ne0, tf01, e_sel_c, e_sel_n, e_exc_mk, ite_not, Decidable.not_not, not_true_eq_false, not_false_eq_true, if_true, if_false, ite_true, ite_false, true_and, and_true, false_and, and_false, true_or, or_true, false_or, or_false, eq_self, en_00, en_10, en_n0, en01, and_self, or_self, ite_self, tf_T, tf_F, *]
set_option maxRecDepth 20000 in
theorem C7_4 {d : Nat} {I : Nat → Nat → Int32} {z : e_Z} {b : Nat} {x1 x2 x3 : Int32} (hb : B2 b) : e_L (d + 2) 7 4 [.ref b, .int x1, .int x2, .int x3] [] (mk I z) = (if x3 < I b 6 then (e_L (d + 2) 7 4 [.ref b, .int x1, .int (if (¬ (x1 &&& (e_shl (e_n 1) x3) = 0)) then x2 ||| (rd I (b + 17) x3) else x2), .int (x3 + e_n 1)] [] (mk I z)) else (some (.inl (some (.int x2)), mk I z))) := by
  refine (B7_4 hb).trans ?_
  refine (Classical.em (x3 < I b 6)).elim (fun h_0 => (Classical.em ((¬ (x1 &&& (e_shl (e_n 1) x3) = 0)))).elim (fun h_1 => ?_) (fun h_1 => ?_)) (fun h_0 => ?_)
  all_goals first | with_reducible rfl | simp only [B7_17 hb, B7_29, B7_31, c174, c169 (kdb17 hb), e_rI_i, e_rJ_l, e_rF_r, e_rV_n, e_rI_t, e_rV_t, e_rI_ite, e_rV_ite, e_cc_eq, e_cc_ne, e_cc_lt, e_cc_ge, e_cc_gt, e_cc_le, tf_eq0, tf_ne0, tf01, e_sel_c, e_sel_n, e_exc_mk, ite_not, Decidable.not_not, not_true_eq_false, not_false_eq_true, if_true, if_false, ite_true, ite_false, true_and, and_true, false_and, and_false, true_or, or_true, false_or, or_false, eq_self, en_00, en_10, en_n0, en01, and_self, or_self, ite_self, tf_T, tf_F, *]
theorem c7 {d : Nat} {I : Nat → Nat → Int32} {z : e_Z} {b : Nat} {x1 : Int32} (hb : B2 b) : e_E (d + 3) 7 [.ref b, .int x1] (mk I z) = some (.inl (some (.int (itr (fun i x2 => if (¬ (x1 &&& (e_shl (e_n 1) (e_n (i : Nat))) = 0)) then x2 ||| (rd I (b + 17) (e_n (i : Nat))) else x2) ((I b 6).toNatClampNeg) 0 (e_n 0)))), mk I z) := e_E_ret (d := (d + 2)) ((C7_0 hb).trans ((loopI (fun (i x2 : Int32) => e_L (d + 2) 7 4 [.ref b, .int x1, .int x2, .int i] [] (mk I z)) ((I b 6).toNatClampNeg) (Int32.toNatClampNeg_lt _) (fun i x2 => if (¬ (x1 &&& (e_shl (e_n 1) (e_n (i : Nat))) = 0)) then x2 ||| (rd I (b + 17) (e_n (i : Nat))) else x2) (fun i a hi => (C7_4 hb).trans (if_pos (lt_b hi))) (e_n 0)).trans ((C7_4 hb).trans (if_neg (nlt_b _)))))
set_option maxRecDepth 20000 in
theorem C8_0 {d : Nat} {I : Nat → Nat → Int32} {z : e_Z} {b : Nat} {x1 : Int32} (hb : B2 b) : e_L (d + 3) 8 0 [.ref b, .int x1, .null, .null] [] (mk I z) = (e_L (d + 3) 8 4 [.ref b, .int x1, .int x1, .int (e_n 0)] [] (mk I z)) := by
  refine (B8_0).trans ?_
  all_goals first | with_reducible rfl | simp only [e_rI_i, e_rJ_l, e_rF_r, e_rV_n, e_rI_t, e_rV_t, e_rI_ite, e_rV_ite, e_cc_eq, e_cc_ne, e_cc_lt, e_cc_ge, e_cc_gt, e_cc_le, tf_eq0, tf_ne0, tf01, e_sel_c, e_sel_n, e_exc_mk, ite_not, Decidable.not_not, not_true_eq_false, not_false_eq_true, if_true, if_false, ite_true, ite_false, true_and, and_true, false_and, and_false, true_or, or_true, false_or, or_false, eq_self, en_00, en_10, en_n0, en01, and_self, or_self, ite_self, tf_T, tf_F, *]
set_option maxRecDepth 20000 in
theorem C8_4 {d : Nat} {I : Nat → Nat → Int32} {z : e_Z} {b : Nat} {x1 x2 x3 : Int32} (hb : B2 b) : e_L (d + 3) 8 4 [.ref b, .int x1, .int x2, .int x3] [] (mk I z) = (if x3 < e_n 9 then (e_L (d + 3) 8 4 [.ref b, .int x1, .int (x2 ||| (itr (fun i x2 => if (¬ (x2 &&& (e_shl (e_n 1) (e_n (i : Nat))) = 0)) then x2 ||| (rd I (b + 17) (e_n (i : Nat))) else x2) ((I b 6).toNatClampNeg) 0 (e_n 0))), .int (x3 + e_n 1)] [] (mk I z)) else (some (.inl (some (.int x2)), mk I z))) := by
  refine (B8_4 hb).trans ?_
  refine (Classical.em (x3 < e_n 9)).elim (fun h_0 => ?_) (fun h_0 => ?_)
  all_goals first | with_reducible rfl | simp only [B8_16, c7 hb, e_rI_i, e_rJ_l, e_rF_r, e_rV_n, e_rI_t, e_rV_t, e_rI_ite, e_rV_ite, e_cc_eq, e_cc_ne, e_cc_lt, e_cc_ge, e_cc_gt, e_cc_le, tf_eq0, tf_ne0, tf01, e_sel_c, e_sel_n, e_exc_mk, ite_not, Decidable.not_not, not_true_eq_false, not_false_eq_true, if_true, if_false, ite_true, ite_false, true_and, and_true, false_and, and_false, true_or, or_true, false_or, or_false, eq_self, en_00, en_10, en_n0, en01, and_self, or_self, ite_self, tf_T, tf_F, *]
theorem c8 {d : Nat} {I : Nat → Nat → Int32} {z : e_Z} {b : Nat} {x1 : Int32} (hb : B2 b) : e_E (d + 4) 8 [.ref b, .int x1] (mk I z) = some (.inl (some (.int (itr (fun i x2 => x2 ||| (itr (fun i x2 => if (¬ (x2 &&& (e_shl (e_n 1) (e_n (i : Nat))) = 0)) then x2 ||| (rd I (b + 17) (e_n (i : Nat))) else x2) ((I b 6).toNatClampNeg) 0 (e_n 0))) 9 0 x1))), mk I z) := e_E_ret (d := (d + 3)) ((C8_0 hb).trans ((loopI (fun (i x2 : Int32) => e_L (d + 3) 8 4 [.ref b, .int x1, .int x2, .int i] [] (mk I z)) 9 (by decide) (fun i x2 => x2 ||| (itr (fun i x2 => if (¬ (x2 &&& (e_shl (e_n 1) (e_n (i : Nat))) = 0)) then x2 ||| (rd I (b + 17) (e_n (i : Nat))) else x2) ((I b 6).toNatClampNeg) 0 (e_n 0))) (fun i a hi => (C8_4 hb).trans (if_pos (lt_k hi (by decide)))) x1).trans ((C8_4 hb).trans (if_neg (nlt_k (by decide))))))
set_option maxRecDepth 20000 in
theorem C9_0 {d : Nat} {I : Nat → Nat → Int32} {z : e_Z} {b : Nat} {x1 : Int32} (hb : B2 b) : e_L (d + 2) 9 0 [.ref b, .int x1, .null, .null] [] (mk I z) = (e_L (d + 2) 9 4 [.ref b, .int x1, .int (e_n 0), .int (e_n 0)] [] (mk I z)) := by
  refine (B9_0).trans ?_
  all_goals first | with_reducible rfl | simp only [e_rI_i, e_rJ_l, e_rF_r, e_rV_n, e_rI_t, e_rV_t, e_rI_ite, e_rV_ite, e_cc_eq, e_cc_ne, e_cc_lt, e_cc_ge, e_cc_gt, e_cc_le, tf_eq0, tf_ne0, tf01, e_sel_c, e_sel_n, e_exc_mk, ite_not, Decidable.not_not, not_true_eq_false, not_false_eq_true, if_true, if_false, ite_true, ite_false, true_and, and_true, false_and, and_false, true_or, or_true, false_or, or_false, eq_self, en_00, en_10, en_n0, en01, and_self, or_self, ite_self, tf_T, tf_F, *]
set_option maxRecDepth 20000 in
theorem C9_4 {d : Nat} {I : Nat → Nat → Int32} {z : e_Z} {b : Nat} {x1 x2 x3 : Int32} (hb : B2 b) : e_L (d + 2) 9 4 [.ref b, .int x1, .int x2, .int x3] [] (mk I z) = (if x3 < I b 6 then (e_L (d + 2) 9 4 [.ref b, .int x1, .int (x2 + (if (¬ (x1 &&& (e_shl (e_n 1) x3) = 0)) then rd I (b + 15) x3 else e_n 0)), .int (x3 + e_n 1)] [] (mk I z)) else (some (.inl (some (.int x2)), mk I z))) := by
  refine (B9_4 hb).trans ?_
  refine (Classical.em (x3 < I b 6)).elim (fun h_0 => (Classical.em ((¬ (x1 &&& (e_shl (e_n 1) x3) = 0)))).elim (fun h_1 => ?_) (fun h_1 => ?_)) (fun h_0 => ?_)
  all_goals first | with_reducible rfl | simp only [B9_18 hb, B9_29, B9_33, c174, c169 (kdb15 hb), e_rI_i, e_rJ_l, e_rF_r, e_rV_n, e_rI_t, e_rV_t, e_rI_ite, e_rV_ite, e_cc_eq, e_cc_ne, e_cc_lt, e_cc_ge, e_cc_gt, e_cc_le, tf_eq0, tf_ne0, tf01, e_sel_c, e_sel_n, e_exc_mk, ite_not, Decidable.not_not, not_true_eq_false, not_false_eq_true, if_true, if_false, ite_true, ite_false, true_and, and_true, false_and, and_false, true_or, or_true, false_or, or_false, eq_self, en_00, en_10, en_n0, en01, and_self, or_self, ite_self, tf_T, tf_F, *]
theorem c9 {d : Nat} {I : Nat → Nat → Int32} {z : e_Z} {b : Nat} {x1 : Int32} (hb : B2 b) : e_E (d + 3) 9 [.ref b, .int x1] (mk I z) = some (.inl (some (.int (itr (fun i x2 => x2 + (if (¬ (x1 &&& (e_shl (e_n 1) (e_n (i : Nat))) = 0)) then rd I (b + 15) (e_n (i : Nat)) else e_n 0)) ((I b 6).toNatClampNeg) 0 (e_n 0)))), mk I z) := e_E_ret (d := (d + 2)) ((C9_0 hb).trans ((loopI (fun (i x2 : Int32) => e_L (d + 2) 9 4 [.ref b, .int x1, .int x2, .int i] [] (mk I z)) ((I b 6).toNatClampNeg) (Int32.toNatClampNeg_lt _) (fun i x2 => x2 + (if (¬ (x1 &&& (e_shl (e_n 1) (e_n (i : Nat))) = 0)) then rd I (b + 15) (e_n (i : Nat)) else e_n 0)) (fun i a hi => (C9_4 hb).trans (if_pos (lt_b hi))) (e_n 0)).trans ((C9_4 hb).trans (if_neg (nlt_b _)))))
end C44
