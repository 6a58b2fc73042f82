section EK
theorem e_nw_warm {w : Cond} {s U : State} (hW : s.WarmedH U.vm) (hk : e_nwk w = true) (h : va_Nw w s) : va_Nw w U := by
  unfold e_nwk at hk
  split at hk
  · exact va_Nw.warmM hW h
  · exact va_Nw.warmD hW h
  · exact va_Nw.warmC hW h
  · cases hk
theorem e_nw_tab {w : Cond} (hk : e_nwk w = true) : w.onTables = true := by
  unfold e_nwk at hk
  split at hk <;> first | rfl | cases hk
abbrev e_NSE : String := "java/util/NoSuchElementException"
abbrev e_IAE : String := "java/lang/IllegalArgumentException"
/-- an exception's name: 0, 1 -/
def e_xn (e : Nat) : String := if e = 0 then e_NSE else e_IAE
/-- what the tables give at every state: the classes, the other words, the literals of throws -/
def e_KS (G : e_G) (s : State) : Prop := va_K G.1 vwCl (e_tys G) s ∧ (∀ w ∈ e_NWd, va_Nw w s) ∧ (∀ q ∈ e_str, ∃ sa, vk_R "WhiteBoard" q.1 q.2 sa s) ∧ va_Nc e_NSE e_IAE s ∧ va_Nc e_IAE e_NSE s ∧ va_AO RX6 s
theorem e_KS.warm {G : e_G} {s U : State} (hW : s.WarmedH U.vm) (h : e_KS G s) : e_KS G U := by
  obtain ⟨h1, h2, h3, h4, h5, h6⟩ := h
  refine ⟨va_K.moved hW.alike h1, fun w hw => e_nw_warm hW (List.mem_filter.mp hw).2 (h2 w hw), fun q hq => ?_, va_Nc.moved hW.alike h4, va_Nc.moved hW.alike h5, va_AO.moved hW.alike h6⟩
  obtain ⟨sa, h⟩ := h3 q hq
  exact ⟨sa, vk_R.warm hW h⟩
theorem e_KS.nw {G : e_G} {s : State} (h : e_KS G s) {w : Cond} (hw : w ∈ e_NWd) (args : Array Value) : w.before args s = true := va_Nw.use (e_nw_tab (List.mem_filter.mp hw).2) (h.2.1 w hw)
/-- the constants' cells: sd k is where the picture's cell 1000000 + k lies; they are never written -/
def e_SS (sd : Nat → Nat) (xl : Nat) (xs : Nat → Int32) (A : Nat → Prop) (U : State) (H : Heap) : Prop :=
  va_T .int (sd 0) xl (fun j => .int (xs j)) A U H ∧
  va_T .int (sd 1) e_sm.length (fun j => .int (e_sm.getD j 0)) A U H ∧
  va_T (.object "WhiteBoard$Word") (sd 2) 17 (fun j => .ref (sd (100 + j))) A U H ∧
  (∀ k, k < 17 → va_O "WhiteBoard$Word" (sd (100 + k)) A U H ∧ va_OF "WhiteBoard$Word" "text" "Ljava/lang/String;" (.ref (sd (200 + k))) (sd (100 + k)) A U H ∧ va_OF "WhiteBoard$Word" "value" "I" (.int (e_wv.getD k 0)) (sd (100 + k)) A U H ∧ va_OF "java/lang/Enum" "ordinal" "I" (.int (Int32.ofNat k)) (sd (100 + k)) A U H) ∧
  (∀ k, k < 17 → va_O "java/lang/String" (sd (200 + k)) A U H ∧ va_OF "java/lang/String" "value" "[B" (.ref (sd (300 + k))) (sd (200 + k)) A U H ∧ va_OF "java/lang/String" "coder" "B" (.int 0) (sd (200 + k)) A U H) ∧
  (∀ k, k < 17 → va_T .byte (sd (300 + k)) (e_txt.getD k []).length (fun j => .int ((e_txt.getD k []).getD j 0)) A U H) ∧
  (∀ i j, i < 17 → j < 17 → sd (100 + i) = sd (100 + j) → i = j) ∧
  va_Z "WhiteBoard$Tokens" "WORDS" "[LWhiteBoard$Word;" (.ref (sd 2)) A U H ∧
  va_Z "WhiteBoard$1" "$SwitchMap$WhiteBoard$Word" "[I" (.ref (sd 1)) A U H ∧
  (∀ k, k < 17 → va_Z "WhiteBoard$Word" (e_wn.getD k "") "LWhiteBoard$Word;" (.ref (sd (100 + k))) A U H) ∧
  va_Z "java/lang/String" "COMPACT_STRINGS" "Z" (.int 1) A U H ∧
  va_Zq "jdk/internal/util/Preconditions" "SIOOBE_FORMATTER" "Ljava/util/function/BiFunction;" A U H ∧
  vx_Zq Bundle.tN "UNASSIGNED_STACK" Bundle.steD A U H ∧ vx_Zq Bundle.tN "SUPPRESSED_SENTINEL" Bundle.listD A U H
theorem e_SS.moved {sd : Nat → Nat} {xl : Nat} {xs : Nat → Int32} {A : Nat → Prop} {u U : State} {H : Heap} (hvm : u.vm.Alike U.vm) (h : e_SS sd xl xs A u H) : e_SS sd xl xs A U H := by
  obtain ⟨h1, h2, h3, h4, h5, h6, h7, h8, h9, h10, h11, h12, h13, h14⟩ := h
  exact ⟨h1.moved hvm, h2.moved hvm, h3.moved hvm, fun k hk => ⟨(h4 k hk).1.moved hvm, (h4 k hk).2.1.moved hvm, (h4 k hk).2.2.1.moved hvm, (h4 k hk).2.2.2.moved hvm⟩, fun k hk => ⟨(h5 k hk).1.moved hvm, (h5 k hk).2.1.moved hvm, (h5 k hk).2.2.moved hvm⟩, fun k hk => (h6 k hk).moved hvm, h7, h8.moved hvm, h9.moved hvm, fun k hk => (h10 k hk).moved hvm, h11.moved hvm, h12.moved hvm, h13.moved hvm, h14.moved hvm⟩
theorem e_SS.kept {sd : Nat → Nat} {xl : Nat} {xs : Nat → Int32} {A : Nat → Prop} {U : State} {H H1 : Heap} (h : e_SS sd xl xs A U H) (hq : ∀ a : Nat, a < H.size → ¬ A a → H1[a]? = H[a]?) : e_SS sd xl xs A U H1 := by
  obtain ⟨h1, h2, h3, h4, h5, h6, h7, h8, h9, h10, h11, h12, h13, h14⟩ := h
  exact ⟨h1.kept hq, h2.kept hq, h3.kept hq, fun k hk => ⟨(h4 k hk).1.kept hq, (h4 k hk).2.1.kept hq, (h4 k hk).2.2.1.kept hq, (h4 k hk).2.2.2.kept hq⟩, fun k hk => ⟨(h5 k hk).1.kept hq, (h5 k hk).2.1.kept hq, (h5 k hk).2.2.kept hq⟩, fun k hk => (h6 k hk).kept hq, h7, h8.kept hq, h9.kept hq, fun k hk => (h10 k hk).kept hq, h11.kept hq, h12.kept hq, h13.kept hq, h14.kept hq⟩
theorem e_SS.narrow {sd : Nat → Nat} {xl : Nat} {xs : Nat → Int32} {A B : Nat → Prop} {U : State} {H : Heap} (h : e_SS sd xl xs A U H) (hAB : ∀ q, B q → A q) : e_SS sd xl xs B U H := by
  obtain ⟨h1, h2, h3, h4, h5, h6, h7, h8, h9, h10, h11, h12, h13, h14⟩ := h
  exact ⟨h1.narrow hAB, h2.narrow hAB, h3.narrow hAB, fun k hk => ⟨(h4 k hk).1.narrow hAB, (h4 k hk).2.1.narrow hAB, (h4 k hk).2.2.1.narrow hAB, (h4 k hk).2.2.2.narrow hAB⟩, fun k hk => ⟨(h5 k hk).1.narrow hAB, (h5 k hk).2.1.narrow hAB, (h5 k hk).2.2.narrow hAB⟩, fun k hk => (h6 k hk).narrow hAB, h7, h8.narrow hAB, h9.narrow hAB, fun k hk => (h10 k hk).narrow hAB, h11.narrow hAB, h12.narrow hAB, h13.narrow hAB, h14.narrow hAB⟩
end EK
