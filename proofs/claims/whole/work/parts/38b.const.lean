section EJ
variable {s : State} {args : Array Value}
def e_six : List Nat := [83, 89, 92, 95, 98, 101, 104, 107, 110, 113, 118, 121, 124, 127, 130, 133, 136]
def e_gex : List Nat := [68, 75, 83, 92, 102, 113, 62, 57, 53, 125, 138, 152, 167, 183, 200, 218, 237]
def e_gor : List Nat := [69, 76, 84, 93, 103, 114, 63, 58, 54, 126, 139, 153, 168, 184, 201, 219, 238]
def e_gva : List Nat := [71, 78, 86, 95, 105, 116, 65, 60, 56, 128, 141, 155, 170, 186, 203, 221, 240]
def e_gtx : List Nat := [70, 77, 85, 94, 104, 115, 64, 59, 55, 127, 140, 154, 169, 185, 202, 220, 239]
def e_gel : List Nat := [11, 12, 13, 14, 15, 16, 17, 18, 19, 20, 21, 22, 23, 24, 25, 26, 27]
def e_gsm : List Nat := [36, 37, 38, 39, 40, 41, 42, 43, 44, 45, 46, 47, 48, 49, 50, 51, 52]
def e_gse : List Nat := [674, 684, 693, 700, 707, 717, 668, 661, 654, 727, 734, 744, 751, 760, 768, 778, 785]
def e_gtc : List Nat := [675, 685, 694, 701, 708, 718, 669, 662, 655, 728, 735, 745, 752, 761, 769, 779, 786]
def e_gsa : List Nat := [676, 686, 695, 702, 709, 719, 670, 663, 656, 729, 736, 746, 753, 762, 770, 780, 787]
def e_gsl : List Nat := [677, 687, 696, 703, 710, 720, 671, 664, 657, 730, 737, 747, 754, 763, 771, 781, 788]
def e_gsb : List (List Nat) := [[678, 679, 680, 681, 682, 683], [688, 689, 690, 691, 692], [697, 698, 699], [704, 705, 706], [711, 712, 713, 714, 715, 716], [721, 722, 723, 724, 725, 726], [672, 673], [665, 666, 667], [658, 659, 660], [731, 732, 733], [738, 739, 740, 741, 742, 743], [748, 749, 750], [755, 756, 757, 758, 759], [764, 765, 766, 767], [772, 773, 774, 775, 776, 777], [782, 783, 784], [789, 790, 791, 792, 793]]
def e_gne : List (List Nat) := [[0, 82, 90, 99, 109, 120, 74, 73, 72, 132, 145, 159, 174, 190, 207, 225, 244], [82, 0, 91, 100, 110, 121, 81, 80, 79, 133, 146, 160, 175, 191, 208, 226, 245], [90, 91, 0, 101, 111, 122, 89, 88, 87, 134, 147, 161, 176, 192, 209, 227, 246], [99, 100, 101, 0, 112, 123, 98, 97, 96, 135, 148, 162, 177, 193, 210, 228, 247], [109, 110, 111, 112, 0, 124, 108, 107, 106, 136, 149, 163, 178, 194, 211, 229, 248], [120, 121, 122, 123, 124, 0, 119, 118, 117, 137, 150, 164, 179, 195, 212, 230, 249], [74, 81, 89, 98, 108, 119, 0, 67, 66, 131, 144, 158, 173, 189, 206, 224, 243], [73, 80, 88, 97, 107, 118, 67, 0, 61, 130, 143, 157, 172, 188, 205, 223, 242], [72, 79, 87, 96, 106, 117, 66, 61, 0, 129, 142, 156, 171, 187, 204, 222, 241], [132, 133, 134, 135, 136, 137, 131, 130, 129, 0, 151, 165, 180, 196, 213, 231, 250], [145, 146, 147, 148, 149, 150, 144, 143, 142, 151, 0, 166, 181, 197, 214, 232, 251], [159, 160, 161, 162, 163, 164, 158, 157, 156, 165, 166, 0, 182, 198, 215, 233, 252], [174, 175, 176, 177, 178, 179, 173, 172, 171, 180, 181, 182, 0, 199, 216, 234, 253], [190, 191, 192, 193, 194, 195, 189, 188, 187, 196, 197, 198, 199, 0, 217, 235, 254], [207, 208, 209, 210, 211, 212, 206, 205, 204, 213, 214, 215, 216, 217, 0, 236, 255], [225, 226, 227, 228, 229, 230, 224, 223, 222, 231, 232, 233, 234, 235, 236, 0, 256], [244, 245, 246, 247, 248, 249, 243, 242, 241, 250, 251, 252, 253, 254, 255, 256, 0]]
def e_gly : List Nat := [2328, 2329, 2330, 2331, 2332, 2333, 1157, 1155, 1113, 2334, 2335, 2336, 2337, 2338, 2339, 2340, 2341]
def e_wT (k : Nat) : Term := .static "WhiteBoard$Word" (e_wn.getD k "") "LWhiteBoard$Word;"
def e_sT (k : Nat) : Term := .string "WhiteBoard$Word" (e_six.getD k 0)
def e_gc (i : Nat) (w : Cond) : Bool := decide (e_gv[i]? = some w)
def e_ck1 (k : Nat) : Bool := e_gc (e_gex.getD k 0) (.exactly (e_wT k) "WhiteBoard$Word") && e_gc (e_gor.getD k 0) (.eq (.field (e_wT k) "java/lang/Enum" "ordinal" "I") (.int (Int32.ofNat k))) && e_gc (e_gva.getD k 0) (.eq (.field (e_wT k) "WhiteBoard$Word" "value" "I") (.int (e_wv.getD k 0))) && e_gc (e_gtx.getD k 0) (.eq (.field (e_wT k) "WhiteBoard$Word" "text" "Ljava/lang/String;") (e_sT k)) && decide (lw_tbl[e_gly.getD k 0]? = some (.laysStatic "WhiteBoard$Word" (e_wn.getD k "") "LWhiteBoard$Word;"))
def e_ck2 (k : Nat) : Bool := e_gc (e_gse.getD k 0) (.exactly (e_sT k) "java/lang/String") && e_gc (e_gtc.getD k 0) (.eq (.field (e_sT k) "java/lang/String" "coder" "B") (.int 0)) && e_gc (e_gsa.getD k 0) (.arrayOf (.field (e_sT k) "java/lang/String" "value" "[B") .byte) && e_gc (e_gsl.getD k 0) (.eq (.length (.field (e_sT k) "java/lang/String" "value" "[B")) (.int (Int32.ofNat (e_txt.getD k []).length))) && (List.range (e_txt.getD k []).length).all (fun j => e_gc ((e_gsb.getD k []).getD j 0) (.eq (.elem (.field (e_sT k) "java/lang/String" "value" "[B") (.int (Int32.ofNat j))) (.int ((e_txt.getD k []).getD j 0))))
def e_ck3 (k : Nat) : Bool := e_gc (e_gel.getD k 0) (.eq (.elem (.static "WhiteBoard$Tokens" "WORDS" "[LWhiteBoard$Word;") (.int (Int32.ofNat k))) (e_wT k)) && e_gc (e_gsm.getD k 0) (.eq (.elem (.static "WhiteBoard$1" "$SwitchMap$WhiteBoard$Word" "[I") (.int (Int32.ofNat k))) (.int (e_sm.getD k 0)))
def e_ck4 (i j : Nat) : Bool := decide (i = j) || e_gc ((e_gne.getD i []).getD j 0) (.not (.eq (e_wT i) (e_wT j))) || e_gc ((e_gne.getD i []).getD j 0) (.not (.eq (e_wT j) (e_wT i)))
set_option maxRecDepth 20000 in
theorem e_ckA1 : (List.range 17).all e_ck1 = true := by decide +kernel
set_option maxRecDepth 20000 in
theorem e_ckA2 : (List.range 17).all e_ck2 = true := by decide +kernel
set_option maxRecDepth 20000 in
theorem e_ckA3 : (List.range 17).all e_ck3 = true := by decide +kernel
set_option maxRecDepth 20000 in
theorem e_ckA4 : (List.range 17).all (fun i => (List.range 17).all (e_ck4 i)) = true := by decide +kernel
/-- a text's cells -/
theorem e_str1 {A : Nat → Prop} (hgv : (Cond.and given_1 narrow_1).before args s = true) (hA : ∀ a : Nat, a < s.heap.size → ¬ A a) {k : Nat} (hk : k < 17) : ∃ aK aV : Nat, (e_sT k).eval args s none [] s = some (.ref aK) ∧ va_O "java/lang/String" aK A s s.heap ∧ va_OF "java/lang/String" "coder" "B" (.int 0) aK A s s.heap ∧ va_OF "java/lang/String" "value" "[B" (.ref aV) aK A s s.heap ∧ va_T .byte aV (e_txt.getD k []).length (fun j => .int ((e_txt.getD k []).getD j 0)) A s s.heap := by
  have h := List.all_eq_true.mp e_ckA2 k (List.mem_range.mpr hk)
  unfold e_ck2 at h
  simp only [Bool.and_eq_true] at h
  obtain ⟨⟨⟨⟨h1, h2⟩, h3⟩, h4⟩, h5⟩ := h
  have hl : (e_txt.getD k []).length < 2 ^ 31 := by
    have hB : (List.range 17).all (fun k => decide ((e_txt.getD k []).length < 2 ^ 31)) = true := by decide +kernel
    exact of_decide_eq_true (List.all_eq_true.mp hB k (List.mem_range.mpr hk))
  obtain ⟨adK, adV, hS, hev⟩ := vk_Sof (args := args) (s := s) (N := 1) (tm := fun _ => e_sT k) (len := [(e_txt.getD k []).length]) (byt := [e_txt.getD k []]) (A := A)
    (fun i hi => by rw [show i = 0 by omega]; exact hl) (fun i hi => e_gv_at hgv (of_decide_eq_true h1)) (fun i hi => e_gv_at hgv (of_decide_eq_true h2)) (fun i hi => e_gv_at hgv (of_decide_eq_true h3))
    (fun i hi => by rw [show i = 0 by omega]; exact e_gv_at hgv (of_decide_eq_true h4)) (fun i hi j hj => by
      rw [show i = 0 by omega] at hj ⊢
      exact e_gv_at hgv (of_decide_eq_true (List.all_eq_true.mp h5 j (List.mem_range.mpr hj)))) (fun i j hi hj hij => absurd (show i = j by omega) hij) hA
  obtain ⟨z1, z2, z3, z4⟩ := hS.1 0 (by omega)
  exact ⟨adK 0, adV 0, hev 0 (by omega), z1, z2, z3, z4⟩
end EJ
