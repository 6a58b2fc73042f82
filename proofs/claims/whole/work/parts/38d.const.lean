section EJ3
variable {s : State} {args : Array Value}
theorem e_SS0 {b L : Nat} {xs : Nat → Int32} (hL : L < 2 ^ 31) (hts : ∀ w ∈ lw_tbl, w.before args s = true) (hgv : (Cond.and given_1 narrow_1).before args s = true) (hX : va_X b L xs s s.heap) (hb : b < s.heap.size) : ∃ sd : Nat → Nat, e_SS sd L xs (fun q => s.heap.size ≤ q) s s.heap ∧ sd 0 = b := by
  have hA : ∀ a : Nat, a < s.heap.size → ¬ (fun q => s.heap.size ≤ q) a := fun a h => Nat.not_le.mpr h
  have h1 : ∀ k, k < 17 → e_ck1 k = true := fun k hk => List.all_eq_true.mp e_ckA1 k (List.mem_range.mpr hk)
  have h3 : ∀ k, k < 17 → e_ck3 k = true := fun k hk => List.all_eq_true.mp e_ckA3 k (List.mem_range.mpr hk)
  obtain ⟨adW, hEn, hev⟩ := e_wrd hts hgv hA
  have hstr : ∀ k : Nat, ∃ q : Nat × Nat, k < 17 → (e_sT k).eval args s none [] s = some (.ref q.1) ∧ va_O "java/lang/String" q.1 (fun q => s.heap.size ≤ q) s s.heap ∧ va_OF "java/lang/String" "coder" "B" (.int 0) q.1 (fun q => s.heap.size ≤ q) s s.heap ∧ va_OF "java/lang/String" "value" "[B" (.ref q.2) q.1 (fun q => s.heap.size ≤ q) s s.heap ∧ va_T .byte q.2 (e_txt.getD k []).length (fun j => .int ((e_txt.getD k []).getD j 0)) (fun q => s.heap.size ≤ q) s s.heap := by
    intro k
    by_cases hk : k < 17
    · obtain ⟨aK, aV, h⟩ := e_str1 hgv hA hk
      exact ⟨(aK, aV), fun _ => h⟩
    · exact ⟨(0, 0), fun h => absurd h hk⟩
  obtain ⟨sp, hsp⟩ := Classical.axiomOfChoice hstr
  have hText : va_Ef 17 "WhiteBoard$Word" "text" "Ljava/lang/String;" (fun k => .ref (sp k).1) adW (fun q => s.heap.size ≤ q) s s.heap :=
    va_Efof (E := "WhiteBoard$Word") (d0 := "LWhiteBoard$Word;") (nm := e_wn) (tm := e_sT) hev (fun k hk => by
      have h := h1 k hk
      unfold e_ck1 at h
      simp only [Bool.and_eq_true] at h
      exact e_gv_at hgv (of_decide_eq_true h.1.2)) (fun k hk => (hsp k hk).1) hA
  obtain ⟨tS, hS1, hS2⟩ := va_Tof (args := args) (s := s) (tm := .static "WhiteBoard$1" "$SwitchMap$WhiteBoard$Word" "[I") (ty := .int) (N := 17) (f := fun j => .int (e_sm.getD j 0)) (by decide) (e_gv_at hgv (i := 34) (by rfl)) (va_eqt (e_gv_at hgv (i := 35) (by rfl))) (fun k hk => by
      have h := h3 k hk
      unfold e_ck3 at h
      simp only [Bool.and_eq_true] at h
      exact va_eqt (e_gv_at hgv (of_decide_eq_true h.2))) hA
  obtain ⟨tW, hW1, hW2⟩ := va_Tof (args := args) (s := s) (tm := .static "WhiteBoard$Tokens" "WORDS" "[LWhiteBoard$Word;") (ty := .object "WhiteBoard$Word") (N := 17) (f := fun j => .ref (adW j)) (by decide) (e_gv_at hgv (i := 8) (by rfl)) (va_eqt (e_gv_at hgv (i := 9) (by rfl))) (fun k hk => by
      have h := h3 k hk
      unfold e_ck3 at h
      simp only [Bool.and_eq_true] at h
      exact va_eqv (e_gv_at hgv (of_decide_eq_true h.1)) (hev k hk)) hA
  obtain ⟨scr, x1, x2, x3, x4, x5⟩ := hX
  let sd : Nat → Nat := fun k => if k = 0 then b else if k = 1 then tS else if k = 2 then tW else if k < 200 then adW (k - 100) else if k < 300 then (sp (k - 200)).1 else (sp (k - 300)).2
  have d1 : ∀ k, k < 17 → sd (100 + k) = adW k := fun k hk => by
    show (if 100 + k = 0 then b else if 100 + k = 1 then tS else if 100 + k = 2 then tW else if 100 + k < 200 then adW (100 + k - 100) else _) = _
    rw [if_neg (by omega), if_neg (by omega), if_neg (by omega), if_pos (by omega), show 100 + k - 100 = k by omega]
  have d2 : ∀ k, k < 17 → sd (200 + k) = (sp k).1 := fun k hk => by
    show (if 200 + k = 0 then b else if 200 + k = 1 then tS else if 200 + k = 2 then tW else if 200 + k < 200 then _ else if 200 + k < 300 then (sp (200 + k - 200)).1 else _) = _
    rw [if_neg (by omega), if_neg (by omega), if_neg (by omega), if_neg (by omega), if_pos (by omega), show 200 + k - 200 = k by omega]
  have d3 : ∀ k, k < 17 → sd (300 + k) = (sp k).2 := fun k hk => by
    show (if 300 + k = 0 then b else if 300 + k = 1 then tS else if 300 + k = 2 then tW else if 300 + k < 200 then _ else if 300 + k < 300 then _ else (sp (300 + k - 300)).2) = _
    rw [if_neg (by omega), if_neg (by omega), if_neg (by omega), if_neg (by omega), if_neg (by omega), show 300 + k - 300 = k by omega]
  have en : ∀ k, k < 17 → k < e_wn.length := fun k hk => hk
  refine ⟨sd, ⟨⟨scr, x1, x2, x3, by rw [x4]; exact Nat.le_refl _, by rw [x4] <;> rfl, x5, hA b hb⟩, hS2, ?_, fun k hk => ?_, fun k hk => ?_, fun k hk => ?_, fun i j hi hj h => ?_, ?_, ?_, fun k hk => ?_, ?_, ?_, ?_, ?_⟩, rfl⟩
  · obtain ⟨cell, w1, w2, w3, w4, w5, w6, w7⟩ := hW2
    exact ⟨cell, w1, w2, w3, w4, w5, fun j hj => by rw [w6 j hj]; show some (Value.ref (adW j)) = some (Value.ref (sd (100 + j))); rw [d1 j hj], w7⟩
  · rw [d1 k hk, d2 k hk]
    have h9 := hEn.1 k (en k hk)
    have hr : ((List.range 17).map Int32.ofNat).getD k 0 = Int32.ofNat k := by
      rw [List.getD_eq_getElem?_getD, List.getElem?_map, List.getElem?_range hk]; rfl
    have ho := h9.2.2 ("java/lang/Enum", "ordinal", "I", (List.range 17).map Int32.ofNat) List.mem_cons_self
    have ho2 : va_OF "java/lang/Enum" "ordinal" "I" (.int (((List.range 17).map Int32.ofNat).getD k 0)) (adW k) (fun q => s.heap.size ≤ q) s s.heap := ho
    rw [hr] at ho2
    exact ⟨h9.2.1, hText k hk, h9.2.2 ("WhiteBoard$Word", "value", "I", e_wv) (List.mem_cons_of_mem _ List.mem_cons_self), ho2⟩
  · rw [d2 k hk, d3 k hk]
    exact ⟨(hsp k hk).2.1, (hsp k hk).2.2.2.1, (hsp k hk).2.2.1⟩
  · rw [d3 k hk]
    exact (hsp k hk).2.2.2.2
  · rw [d1 i hi, d1 j hj] at h
    exact hEn.2 i j (en i hi) (en j hj) h
  · exact va_Zof (e_lt_at hts (i := 905) (by decide +kernel)) (e_lt_at hts (i := 125) (by decide +kernel)) hW1 hA
  · exact va_Zof (e_lt_at hts (i := 998) (by decide +kernel)) (e_lt_at hts (i := 142) (by decide +kernel)) hS1 hA
  · rw [d1 k hk]
    exact (hEn.1 k (en k hk)).1
  · exact va_Zof (e_lt_at hts (i := 919) (by decide +kernel)) (e_lt_at hts (i := 138) (by decide +kernel)) (va_eqt (e_gv_at hgv (i := 28) (by rfl))) hA
  · exact va_Zqof (e_lt_at hts (i := 935) (by decide +kernel)) (e_lt_at hts (i := 140) (by decide +kernel)) (e_gv_at hgv (i := 29) (by rfl)) hA
  · exact vx_Zqof (e_lt_at hts (i := 840) (by decide +kernel)) (e_lt_at hts (i := 134) (by decide +kernel)) (e_gv_at hgv (i := 4) (by rfl)) hA
  · exact vx_Zqof (e_lt_at hts (i := 842) (by decide +kernel)) (e_lt_at hts (i := 134) (by decide +kernel)) (e_gv_at hgv (i := 5) (by rfl)) hA
end EJ3
