section EF
def e_gsn : Value → Option (String × String × String)
  | .ref a => if a = 1000002 then some ("WhiteBoard$Tokens", "WORDS", "[LWhiteBoard$Word;") else if a = 1000001 then some ("WhiteBoard$1", "$SwitchMap$WhiteBoard$Word", "[I") else if 1000100 ≤ a ∧ a < 1000117 then some ("WhiteBoard$Word", e_wn.getD (a - 1000100) "", "LWhiteBoard$Word;") else none
  | .int x => if x = 1 then some ("java/lang/String", "COMPACT_STRINGS", "Z") else none
  | .null => some ("jdk/internal/util/Preconditions", "SIOOBE_FORMATTER", "Ljava/util/function/BiFunction;")
  | _ => none
def e_gsp_7 : List Nat := [997, 1156, 1154, 1112]
def e_gsp_10 : List Nat := [904]
def e_gsp_16 : List Nat := [918, 934]
def e_gsp (o : Nat) : List Nat := (bif Nat.blt o 10 then (bif Nat.blt o 5 then (bif Nat.blt o 2 then (bif Nat.blt o 1 then [] else []) else (bif Nat.blt o 3 then [] else (bif Nat.blt o 4 then [] else []))) else (bif Nat.blt o 7 then (bif Nat.blt o 6 then [] else []) else (bif Nat.blt o 8 then e_gsp_7 else (bif Nat.blt o 9 then [] else [])))) else (bif Nat.blt o 15 then (bif Nat.blt o 12 then (bif Nat.blt o 11 then e_gsp_10 else []) else (bif Nat.blt o 13 then [] else (bif Nat.blt o 14 then [] else []))) else (bif Nat.blt o 18 then (bif Nat.blt o 16 then [] else (bif Nat.blt o 17 then e_gsp_16 else [])) else (bif Nat.blt o 19 then [] else (bif Nat.blt o 20 then [] else [])))))
def e_sfl (o : Nat) : List (Nat × (Nat × Nat × Nat)) := (e_fr o).filter (fun q => Nat.ble 40 q.2.1)
def e_sfp_7 : List Nat := [2327]
def e_sfp_10 : List Nat := [2323]
def e_sfp_16 : List Nat := [2324, 2325]
def e_sfp_19 : List Nat := [2326]
def e_sfp (o : Nat) : List Nat := (bif Nat.blt o 10 then (bif Nat.blt o 5 then (bif Nat.blt o 2 then (bif Nat.blt o 1 then [] else []) else (bif Nat.blt o 3 then [] else (bif Nat.blt o 4 then [] else []))) else (bif Nat.blt o 7 then (bif Nat.blt o 6 then [] else []) else (bif Nat.blt o 8 then e_sfp_7 else (bif Nat.blt o 9 then [] else [])))) else (bif Nat.blt o 15 then (bif Nat.blt o 12 then (bif Nat.blt o 11 then e_sfp_10 else []) else (bif Nat.blt o 13 then [] else (bif Nat.blt o 14 then [] else []))) else (bif Nat.blt o 18 then (bif Nat.blt o 16 then [] else (bif Nat.blt o 17 then e_sfp_16 else [])) else (bif Nat.blt o 19 then [] else (bif Nat.blt o 20 then e_sfp_19 else [])))))
def e_fsn (c k ty : Nat) : Option (String × String × String) :=
  if c = 40 ∧ k = 0 ∧ ty = 7 then some ("WhiteBoard$Word", "text", "Ljava/lang/String;") else if c = 40 ∧ k = 1 ∧ ty = 8 then some ("WhiteBoard$Word", "value", "I") else if c = 41 ∧ k = 0 ∧ ty = 7 then some ("java/lang/String", "value", "[B") else if c = 41 ∧ k = 1 ∧ ty = 8 then some ("java/lang/String", "coder", "B") else if c = 42 ∧ k = 0 ∧ ty = 8 then some ("java/lang/Enum", "ordinal", "I") else none
def e_zc {α β : Type} (a : List α) (b : List β) (f : α → β → Bool) : Bool := Nat.beq a.length b.length && (a.zip b).all (fun q => f q.1 q.2)
theorem e_zc_ok {α β : Type} {a : List α} {b : List β} {f : α → β → Bool} (h : e_zc a b f = true) {x : α} (hx : x ∈ a) : ∃ y, f x y = true := by
  unfold e_zc at h
  rw [Bool.and_eq_true] at h
  obtain ⟨y, hy⟩ := e_zip_at (Nat.eq_of_beq_eq_true h.1) hx
  exact ⟨y, List.all_eq_true.mp h.2 _ hy⟩
def e_gsc (o : Nat) (q : Nat × Value) (i : Nat) : Bool := match e_gsn q.2 with | some (C, n, d) => decide (lw_tbl[i]? = some (.fieldLink (e_on o) q.1 C n d)) | none => false
def e_sfc (o : Nat) (q : Nat × (Nat × Nat × Nat)) (i : Nat) : Bool := match e_fsn q.2.1 q.2.2.1 q.2.2.2 with | some (C, n, d) => decide (lw_tbl[i]? = some (.fieldLink (e_on o) q.1 C n d)) | none => false
def e_ldc (o : Nat) (q : Nat × Value) (i : Nat) : Bool := match q.2 with | .int x => decide (lw_tbl[i]? = some (.constant (e_on o) q.1 x)) | .long x => decide (lw_tbl[i]? = some (.constantLong (e_on o) q.1 x)) | _ => false
def e_nwc (o : Nat) (q : Nat × (Nat × Nat)) (i : Nat) : Bool := match vwCl[q.2.1 - 1]? with | some r => decide (lw_tbl[i]? = some (.classLink (e_on o) q.1 r.1)) && Nat.beq r.2.2 q.2.2 && Nat.ble 1 q.2.1 | none => false
theorem e_gsA : (List.range 21).all (fun o => e_zc (e_gst o) (e_gsp o) (e_gsc o)) = true := by decide +kernel
theorem e_sfA : (List.range 21).all (fun o => e_zc (e_sfl o) (e_sfp o) (e_sfc o)) = true := by decide +kernel
theorem e_ldA : (List.range 21).all (fun o => e_zc (e_ldt o) (e_ldp o) (e_ldc o)) = true := by decide +kernel
theorem e_nwA : (List.range 21).all (fun o => e_zc (e_nwt o) (e_nwp o) (e_nwc o)) = true := by decide +kernel
theorem e_gs_ok {o idx : Nat} {v : Value} (ho : o < 21) (h : e_look (e_gst o) idx = some v) : ∃ C n d, e_gsn v = some (C, n, d) ∧ Cond.fieldLink (e_on o) idx C n d ∈ e_U := by
  obtain ⟨i, hi⟩ := e_zc_ok (List.all_eq_true.mp e_gsA o (List.mem_range.mpr ho)) (e_look_mem h)
  unfold e_gsc at hi
  split at hi
  · rename_i C n d hq; exact ⟨C, n, d, hq, e_U_at (of_decide_eq_true hi) rfl⟩
  · cases hi
theorem e_sf_ok {o idx c k ty : Nat} (ho : o < 21) (h : e_look (e_fr o) idx = some (c, k, ty)) (hc : 40 ≤ c) : ∃ C n d, e_fsn c k ty = some (C, n, d) ∧ Cond.fieldLink (e_on o) idx C n d ∈ e_U := by
  have hm : (idx, (c, k, ty)) ∈ e_sfl o := List.mem_filter.mpr ⟨e_look_mem h, Nat.ble_eq_true_of_le hc⟩
  obtain ⟨i, hi⟩ := e_zc_ok (List.all_eq_true.mp e_sfA o (List.mem_range.mpr ho)) hm
  unfold e_sfc at hi
  split at hi
  · rename_i C n d hq; exact ⟨C, n, d, hq, e_U_at (of_decide_eq_true hi) rfl⟩
  · cases hi
theorem e_ld_ok {o idx : Nat} {v : Value} (ho : o < 21) (h : e_look (e_ldt o) idx = some v) : (∃ x, v = .int x ∧ Cond.constant (e_on o) idx x ∈ e_U) ∨ (∃ x, v = .long x ∧ Cond.constantLong (e_on o) idx x ∈ e_U) := by
  obtain ⟨i, hi⟩ := e_zc_ok (List.all_eq_true.mp e_ldA o (List.mem_range.mpr ho)) (e_look_mem h)
  unfold e_ldc at hi
  split at hi
  · rename_i x hq; exact Or.inl ⟨x, hq, e_U_at (of_decide_eq_true hi) rfl⟩
  · rename_i x hq; exact Or.inr ⟨x, hq, e_U_at (of_decide_eq_true hi) rfl⟩
  · cases hi
theorem e_nw_ok {o idx c n : Nat} (ho : o < 21) (h : e_look (e_nwt o) idx = some (c, n)) : ∃ r : vw_C, 1 ≤ c ∧ vwCl[c - 1]? = some r ∧ r.2.2 = n ∧ Cond.classLink (e_on o) idx r.1 ∈ e_U := by
  obtain ⟨i, hi⟩ := e_zc_ok (List.all_eq_true.mp e_nwA o (List.mem_range.mpr ho)) (e_look_mem h)
  unfold e_nwc at hi
  split at hi
  · rename_i r hq
    simp only [Bool.and_eq_true, decide_eq_true_eq] at hi
    exact ⟨r, Nat.le_of_ble_eq_true hi.2, hq, Nat.eq_of_beq_eq_true hi.1.2, e_U_at hi.1.1 rfl⟩
  · cases hi

theorem e_an_U : Cond.classLink (e_on 9) 9 RX6 ∈ e_U := e_U_at (i := 360) (by decide +kernel) rfl
/-- what else stands at instructions: arrays of references are of one kind; static calls name no constructor -/
def e_row3 (m : Nat) (q : Nat × Instr × Nat × Nat) : Bool := match q.2.1 with
  | .anewarray idx => Nat.beq (e_own m) 9 && Nat.beq idx 9
  | .ldc idx => (match e_look (e_ldt (e_own m)) idx with | some (.long _) => false | _ => true)
  | .ldc_w idx => (match e_look (e_ldt (e_own m)) idx with | some (.long _) => false | _ => true)
  | .ldc2_w idx => (match e_look (e_ldt (e_own m)) idx with | some (.int _) => false | _ => true)
  | .invokestatic idx => (match e_look (e_mr (e_own m)) idx with | some (y, _, _, _) => Nat.ble 9000 y || decide ((e_yn y).name ≠ "<init>") | none => true)
  | _ => true
def e_rows3 (a k : Nat) : Bool := (List.range k).all (fun j => (e_tab (a + j)).all (e_row3 (a + j)))
theorem e_r3_0 : e_rows3 0 26 = true := by decide +kernel
theorem e_r3_1 : e_rows3 26 26 = true := by decide +kernel
theorem e_r3_2 : e_rows3 52 26 = true := by decide +kernel
theorem e_r3_3 : e_rows3 78 26 = true := by decide +kernel
theorem e_r3_4 : e_rows3 104 26 = true := by decide +kernel
theorem e_r3_5 : e_rows3 130 26 = true := by decide +kernel
theorem e_r3_6 : e_rows3 156 26 = true := by decide +kernel
theorem e_r3_7 : e_rows3 182 26 = true := by decide +kernel
theorem e_r3_8 : e_rows3 208 26 = true := by decide +kernel
theorem e_r3_9 : e_rows3 234 26 = true := by decide +kernel
theorem e_r3_10 : e_rows3 260 26 = true := by decide +kernel
theorem e_r3_11 : e_rows3 286 26 = true := by decide +kernel
theorem e_r3_12 : e_rows3 312 26 = true := by decide +kernel
theorem e_row3_ok (m : Nat) (h : m < 338) : (e_tab m).all (e_row3 m) = true := by
  have key : ∀ a, e_rows3 a 26 = true → a ≤ m → m < a + 26 → (e_tab m).all (e_row3 m) = true := by
    intro a ha h1 h2
    have := List.all_eq_true.mp ha (m - a) (List.mem_range.mpr (by omega))
    rw [show a + (m - a) = m by omega] at this
    exact this
  rcases Nat.lt_or_ge m 156 with h6 | h6
  · rcases Nat.lt_or_ge m 78 with h3 | h3
    · rcases Nat.lt_or_ge m 26 with h1 | h1
      · exact key 0 e_r3_0 (by omega) (by omega)
      · rcases Nat.lt_or_ge m 52 with h2 | h2
        · exact key 26 e_r3_1 (by omega) (by omega)
        · exact key 52 e_r3_2 (by omega) (by omega)
    · rcases Nat.lt_or_ge m 104 with h4 | h4
      · exact key 78 e_r3_3 (by omega) (by omega)
      · rcases Nat.lt_or_ge m 130 with h5 | h5
        · exact key 104 e_r3_4 (by omega) (by omega)
        · exact key 130 e_r3_5 (by omega) (by omega)
  · rcases Nat.lt_or_ge m 234 with h9 | h9
    · rcases Nat.lt_or_ge m 182 with h7 | h7
      · exact key 156 e_r3_6 (by omega) (by omega)
      · rcases Nat.lt_or_ge m 208 with h8 | h8
        · exact key 182 e_r3_7 (by omega) (by omega)
        · exact key 208 e_r3_8 (by omega) (by omega)
    · rcases Nat.lt_or_ge m 286 with h11 | h11
      · rcases Nat.lt_or_ge m 260 with h10 | h10
        · exact key 234 e_r3_9 (by omega) (by omega)
        · exact key 260 e_r3_10 (by omega) (by omega)
      · rcases Nat.lt_or_ge m 312 with h12 | h12
        · exact key 286 e_r3_11 (by omega) (by omega)
        · exact key 312 e_r3_12 (by omega) (by omega)
theorem e_w_oi : Cond.instanceMethod objectInit ∈ e_U := e_U_at (i := 153) (by decide +kernel) (by rfl)
set_option maxRecDepth 20000 in
theorem e_w_oc : Cond.code objectInit ⟨#[0xb1]⟩ 1 none ∈ e_U := e_U_at (i := 154) (by decide +kernel) (by rfl)
theorem e_w_an : Cond.native arraycopyName ∈ e_U := e_U_at (i := 570) (by decide +kernel) (by rfl)
theorem e_w_as : Cond.static arraycopyName ∈ e_U := e_U_at (i := 569) (by decide +kernel) (by rfl)
theorem e_w_si : Cond.initialized "java/lang/System" ∈ e_U := e_U_at (i := 132) (by decide +kernel) (by rfl)
theorem e_w_mi : Cond.initialized "java/lang/Math" ∈ e_U := e_U_at (i := 131) (by decide +kernel) (by rfl)
theorem e_w_maxs : Cond.static Lib.Math.max.name ∈ e_U := e_U_at (i := 753) (by decide +kernel) (by rfl)
set_option maxRecDepth 20000 in
theorem e_w_maxc : Cond.code Lib.Math.max.name Lib.Math.max.code 2 (some .int) ∈ e_U := e_U_at (i := 754) (by decide +kernel) (by rfl)
theorem e_w_mins : Cond.static Lib.Math.min.name ∈ e_U := e_U_at (i := 566) (by decide +kernel) (by rfl)
set_option maxRecDepth 20000 in
theorem e_w_minc : Cond.code Lib.Math.min.name Lib.Math.min.code 2 (some .int) ∈ e_U := e_U_at (i := 567) (by decide +kernel) (by rfl)
def e_hdc (m : Nat) : Bool := decide ((e_look e_hds m).getD [] = (e_hh m).map (fun q => (q.1, q.2.1, q.2.2.1, if q.2.2.2 = 18 then 0 else 1))) && (e_hh m).all (fun q => Nat.beq q.2.2.2 18 || Nat.beq q.2.2.2 13) && ((e_hh m).isEmpty || Nat.beq (e_own m) 13)
theorem e_hdA : (List.range 338).all e_hdc = true := by decide +kernel
theorem e_w_x18 : Cond.classLink (e_on 13) 18 e_NSE ∈ e_U := e_U_at (i := 1161) (by decide +kernel) (by rfl)
theorem e_w_x13 : Cond.classLink (e_on 13) 13 e_IAE ∈ e_U := e_U_at (i := 808) (by decide +kernel) (by rfl)
theorem e_w_cn : Cond.castable "java/util/NoSuchElementException" "java/util/NoSuchElementException" ∈ e_NWd := e_NW_at (i := 1178) (by decide +kernel) rfl
theorem e_w_ci : Cond.castable "java/lang/IllegalArgumentException" "java/lang/IllegalArgumentException" ∈ e_NWd := e_NW_at (i := 815) (by decide +kernel) rfl
end EF
