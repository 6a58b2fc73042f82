section EJ3
variable {s : State} {args : Array Value}
theorem e_SS0 {b L : Nat} {xs : Nat → Int32} (hL : L < 2 ^ 31) (hts : ∀ w ∈ lw_tbl, w.before args s = true) (hgv : (Cond.and given_1 narrow_1).before args s = true) (hX : va_X b L xs s s.heap) (hb : b < s.heap.size) : ∃ sd : Nat → Nat, e_SS sd L xs (fun q => s.heap.size ≤ q) s s.heap ∧ sd 0 = b := by
  have hA : ∀ a : Nat, a < s.heap.size → ¬ (fun q => s.heap.size ≤ q) a := fun a h => Nat.not_le.mpr h
  have h1 : ∀ k, k < 17 → e_ck1 k = true := fun k hk => List.all_eq_true.mp e_ckA1 k (List.mem_range.mpr hk)
  have h3 : ∀ k, k < 17 → e_ck3 k = true := fun k hk => List.all_eq_true.mp e_ckA3 k (List.mem_range.mpr hk)
  obtain ⟨adW, hEn, hev⟩ := e_wrd hts hgv hA
  have hstr : ∀ k : Nat, ∃ q : Nat × Nat, k < 17 → (e_sT k).eval args s none [] s = some (.ref q.1) ∧ va_O "java/lang/String" q.1 (fun q => s.heap.size ≤ q) s s.heap ∧ va_OF "java/lang/String" "coder" "B" (.int 0) q.1 (fun q => s.heap.size ≤ q) s s.heap ∧ va_OF "java/lang/String" "value" "[B" (.ref q.2) q.1 (fun q => s.heap.size ≤ q) s s.heap ∧ va_T .byte q.2 (e_txt.getD k []).length (fun j => .int ((e_txt.getD k []).getD j 0)) (fun q => s.heap.size ≤ q) s s.heap := by
    intro k
    by_cases hk : k < 17
    · obtain ⟨aK, aV, h⟩ := e_str1 hgv hA hk
      exact ⟨(aK, aV), fun _ => h⟩
    · exact ⟨(0, 0), fun h => absurd h hk⟩
  obtain ⟨sp, hsp⟩ := Classical.axiomOfChoice hstr
  have hText : va_Ef 17 "WhiteBoard$Word" "text" "Ljava/lang/String;" (fun k => .ref (sp k).1) adW (fun q => s.heap.size ≤ q) s s.heap :=
    va_Efof (E := "WhiteBoard$Word") (d0 := "LWhiteBoard$Word;") (nm := e_wn) (tm := e_sT) hev (fun k hk => by
      have h := h1 k hk
      unfold e_ck1 at h
      simp only [Bool.and_eq_true] at h
      exact e_gv_at hgv (of_decide_eq_true h.1.2)) (fun k hk => (hsp k hk).1) hA
  obtain ⟨tS, hS1, hS2⟩ := va_Tof (args := args) (s := s) (tm := .static "WhiteBoard$1" "$SwitchMap$WhiteBoard$Word" "[I") (ty := .int) (N := 17) (f := fun j => .int (e_sm.getD j 0)) (by decide) (e_gv_at hgv (i := 34) (by rfl)) (va_eqt (e_gv_at hgv (i := 35) (by rfl))) (fun k hk => by
      have h := h3 k hk
      unfold e_ck3 at h
      simp only [Bool.and_eq_true] at h
      exact va_eqt (e_gv_at hgv (of_decide_eq_true h.2))) hA
  obtain ⟨tW, hW1, hW2⟩ := va_Tof (args := args) (s := s) (tm := .static "WhiteBoard$Tokens" "WORDS" "[LWhiteBoard$Word;") (ty := .object "WhiteBoard$Word") (N := 17) (f := fun j => .ref (adW j)) (by decide) (e_gv_at hgv (i := 8) (by rfl)) (va_eqt (e_gv_at hgv (i := 9) (by rfl))) (fun k hk => by
      have h := h3 k hk
      unfold e_ck3 at h
      simp only [Bool.and_eq_true] at h
      exact va_eqv (e_gv_at hgv (of_decide_eq_true h.1)) (hev k hk)) hA
  obtain ⟨scr, x1, x2, x3, x4, x5⟩ := hX
  let sd : Nat → Nat := fun k => if k = 0 then b else if k = 1 then tS else if k = 2 then tW else if k < 200 then adW (k - 100) else if k < 300 then (sp (k - 200)).1 else (sp (k - 300)).2
  have d1 : ∀ k, k < 17 → sd (100 + k) = adW k := fun k hk => by
    show (if 100 + k = 0 then b else if 100 + k = 1 then tS else if 100 + k = 2 then tW else if 100 + k < 200 then adW (100 + k - 100) else _) = _
    rw [if_neg (by omega), if_neg (by omega), if_neg (by omega), if_pos (by omega), show 100 + k - 100 = k by omega]
  have d2 : ∀ k, k < 17 → sd (200 + k) = (sp k).1 := fun k hk => by
    show (if 200 + k = 0 then b else if 200 + k = 1 then tS else if 200 + k = 2 then tW else if 200 + k < 200 then _ else if 200 + k < 300 then (sp (200 + k - 200)).1 else _) = _
    rw [if_neg (by omega), if_neg (by omega), if_neg (by omega), if_neg (by omega), if_pos (by omega), show 200 + k - 200 = k by omega]
  have d3 : ∀ k, k < 17 → sd (300 + k) = (sp k).2 := fun k hk => by
    show (if 300 + k = 0 then b else if 300 + k = 1 then tS else if 300 + k = 2 then tW else if 300 + k < 200 then _ else if 300 + k < 300 then _ else (sp (300 + k - 300)).2) = _
    rw [if_neg (by omega), if_neg (by omega), if_neg (by omega), if_neg (by omega), if_neg (by omega), show 300 + k - 300 = k by omega]
  sorry
end EJ3
