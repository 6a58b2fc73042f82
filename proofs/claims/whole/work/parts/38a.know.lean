section EK
variable {s : State} {args : Array Value}
def e_gv : List Cond := flatC (.and given_1 narrow_1)
theorem e_gv_at (hgv : (Cond.and given_1 narrow_1).before args s = true) {i : Nat} {w : Cond} (h : e_gv[i]? = some w) : w.before args s = true := flat_of_before _ hgv _ (List.mem_of_getElem? h)
theorem e_lt_at (hts : ∀ w ∈ lw_tbl, w.before args s = true) {i : Nat} {w : Cond} (h : lw_tbl[i]? = some w) : w.before args s = true := hts _ (List.mem_of_getElem? h)
set_option maxRecDepth 20000 in
theorem e_gv_n1 : e_gv[270]? = some (.not (.castable e_NSE e_IAE)) := by rfl
set_option maxRecDepth 20000 in
theorem e_gv_n2 : e_gv[283]? = some (.not (.castable e_IAE e_NSE)) := by rfl
/-- the class of an array of a kind -/
theorem e_arr (ty : FieldType) (h : (Cond.arrayClass ty).before args s = true) : ∃ cA : ClassId, ArrOfT s cA ty ∧ s.vm.findClass ("[" ++ ty.toString) = some cA := by
  obtain ⟨c, k, comp, h1, h2, h3⟩ := Cond.arrayClass_spec h
  exact ⟨c, fun n z => ⟨fun k h => (by cases h), k, h2, comp, h3⟩, h1⟩
def e_ini : List Nat := [156, 445, 510, 162, 532, 361, 295, 202, 355, 301, 148, 1565]
def e_inn : List Nat := [14, 15, 4, 8, 3, 9, 4, 4, 8, 10, 13, 87]
def e_inc (ci : Nat) : Bool := match vwCl[ci]? with | some q => decide (lw_tbl[e_ini.getD ci 0]? = some (.instantiable q.1 (e_inn.getD ci 0))) | none => false
theorem e_inA : (List.range 12).all e_inc = true := by decide +kernel
def e_sti : List Nat := [853, 1185, 1203, 1208, 1220, 1227, 1239, 1241, 1261, 1301, 1316, 1328, 1380, 1402, 1465, 1477, 1495]
def e_stc (q : (Nat × String) × Nat) : Bool := decide (lw_tbl[q.2]? = some (.stringRef "WhiteBoard" q.1.1 q.1.2))
theorem e_stA : (e_str.all fun q => e_sti.any fun i => e_stc (q, i)) = true := by decide +kernel
theorem e_w_fc : Cond.initialized "WhiteBoard" ∈ e_U := e_U_at (i := 120) (by decide +kernel) (by rfl)
theorem e_KS0 {b : Nat} (hts : ∀ w ∈ lw_tbl, w.before args s = true) (hgv : (Cond.and given_1 narrow_1).before args s = true) {cur : ClassId} (hcur : s.vm.findClass "WhiteBoard" = some cur) : ∃ G : e_G, e_KS G s := by
  have hU : ∀ w ∈ e_U, w.before args s = true := fun w hw => hts w (List.mem_filter.mp hw).1
  have hcl : ∀ ci : Nat, ∃ (cC : ClassId) (iS : Nat → Nat), ∀ q : vw_C, vwCl[ci]? = some q → u_Kn s q.1 q.2.1 q.2.2 cC iS := by
    intro ci
    cases hq : vwCl[ci]? with
    | none => exact ⟨0, fun _ => 0, fun q h => by cases h⟩
    | some q =>
      have hlt : ci < 12 := (List.getElem?_eq_some_iff.mp hq).1
      have hi := List.all_eq_true.mp e_inA ci (List.mem_range.mpr hlt)
      unfold e_inc at hi
      rw [hq] at hi
      dsimp only at hi
      obtain ⟨cC, iS, h⟩ := u_known (ws := e_U) hU (e_cl_ok hq).1 (e_lt_at hts (of_decide_eq_true hi))
      exact ⟨cC, iS, fun q' h' => by cases h'; exact h⟩
  obtain ⟨f1, hf1⟩ := Classical.axiomOfChoice hcl
  obtain ⟨f2, hf2⟩ := Classical.axiomOfChoice hf1
  obtain ⟨cI, hI1, hI2⟩ := e_arr .int (e_lt_at hts (i := 200) (by decide +kernel))
  obtain ⟨cZ, hZ1, hZ2⟩ := e_arr .boolean (e_lt_at hts (i := 1832) (by decide +kernel))
  obtain ⟨cJ, hJ1, hJ2⟩ := e_arr .long (e_lt_at hts (i := 2304) (by decide +kernel))
  have hov : (Cond.arrayOver (.object RX6)).before args s = true := e_lt_at hts (i := 414) (by decide +kernel)
  obtain ⟨comp, cM, kM, o1, o2, o3, o4, o5⟩ := Cond.arrayOver_spec hov
  refine ⟨((f1, f2), cI, cZ, cJ, cM), ⟨hf2, fun k q hk => ?_⟩, fun w hw => ?_, fun q hq => ?_, va_Nc.of (e_gv_at hgv e_gv_n1), va_Nc.of (e_gv_at hgv e_gv_n2), va_AO.of hov⟩
  · match k, hk with
    | 0, hk => cases hk; exact ⟨hI1, hI2⟩
    | 1, hk => cases hk; exact ⟨hZ1, hZ2⟩
    | 2, hk => cases hk; exact ⟨hJ1, hJ2⟩
    | 3, hk => cases hk; exact ⟨fun n z => ⟨fun k h => (by cases h), kM, o3, comp, o4⟩, kM, comp, o3, o4, o1, o5⟩
    | k + 4, hk => cases hk
  · exact va_Nw.of (e_nw_tab (List.mem_filter.mp hw).2) (hts w (List.mem_filter.mp hw).1)
  · have h1 := List.all_eq_true.mp e_stA q hq
    obtain ⟨i, -, hi⟩ := List.any_eq_true.mp h1
    have h2 := e_lt_at hts (of_decide_eq_true hi)
    obtain ⟨k, cf, i9, a, -, -, -, -, -, hev⟩ := Cond.stringRef_spec hcur h2
    exact ⟨a, vk_R.of h2 hev⟩
end EK
