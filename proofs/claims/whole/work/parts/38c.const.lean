section EJ2
variable {s : State} {args : Array Value}
/-- the words' cells -/
theorem e_wrd {A : Nat → Prop} (hts : ∀ w ∈ lw_tbl, w.before args s = true) (hgv : (Cond.and given_1 narrow_1).before args s = true) (hA : ∀ a : Nat, a < s.heap.size → ¬ A a) : ∃ adW : Nat → Nat, va_En "WhiteBoard$Word" "LWhiteBoard$Word;" e_wn [("java/lang/Enum", "ordinal", "I", (List.range 17).map Int32.ofNat), ("WhiteBoard$Word", "value", "I", e_wv)] adW A s s.heap ∧ ∀ i, i < 17 → (e_wT i).eval args s none [] s = some (.ref (adW i)) := by
  have h1 : ∀ k, k < 17 → e_ck1 k = true := fun k hk => List.all_eq_true.mp e_ckA1 k (List.mem_range.mpr hk)
  have hn : e_wn.length = 17 := rfl
  refine va_Enof2 (fun i hi => ?_) (e_lt_at hts (i := 144) (by decide +kernel)) (fun i hi => ?_) (fun q hq i hi => ?_) (fun i j hi hj hij => ?_) hA
  · have h := h1 i hi
    unfold e_ck1 at h
    simp only [Bool.and_eq_true] at h
    exact e_lt_at hts (of_decide_eq_true h.2)
  · have h := h1 i hi
    unfold e_ck1 at h
    simp only [Bool.and_eq_true] at h
    exact e_gv_at hgv (of_decide_eq_true h.1.1.1.1)
  · have h := h1 i hi
    unfold e_ck1 at h
    simp only [Bool.and_eq_true] at h
    simp only [List.mem_cons, List.not_mem_nil, or_false] at hq
    rcases hq with rfl | rfl
    · have hr : ((List.range 17).map Int32.ofNat).getD i 0 = Int32.ofNat i := by
        rw [List.getD_eq_getElem?_getD, List.getElem?_map, List.getElem?_range (show i < 17 from hi)]; rfl
      show (Cond.eq (.field (e_wT i) "java/lang/Enum" "ordinal" "I") (.int (((List.range 17).map Int32.ofNat).getD i 0))).before args s = true
      rw [hr]
      exact e_gv_at hgv (of_decide_eq_true h.1.1.1.2)
    · exact e_gv_at hgv (of_decide_eq_true h.1.1.2)
  · have h := List.all_eq_true.mp (List.all_eq_true.mp e_ckA4 i (List.mem_range.mpr hi)) j (List.mem_range.mpr hj)
    unfold e_ck4 at h
    simp only [Bool.or_eq_true] at h
    rcases h with (h | h) | h
    · exact absurd (of_decide_eq_true h) hij
    · exact Or.inl (e_gv_at hgv (of_decide_eq_true h))
    · exact Or.inr (e_gv_at hgv (of_decide_eq_true h))
end EJ2
