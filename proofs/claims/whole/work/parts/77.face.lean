/-! reading calls, face to face: count, master, place, person, grudge, sought, fault -/
section S77
theorem rel_q {J I : Nat → Nat → Int32} (hq : ∀ s, 489 ≤ s → J s = I s) (s k : Nat) (h : 489 ≤ s) : J s k = I s k := by rw [hq s h]

theorem F121_0 {d : Nat} {c1 : Int32} {I : Nat → Nat → Int32} {z : e_Z} {B : e_B} (H : Rel I z B) : Face d c1 I z 121 242 [.int (e_n (((0 : Nat) : Nat) : Int))] := by
  have wb := rel_wb H
  have hb := B2_bd z.2.1.1
  refine face_rd H (r := .inl (I (bd z.2.1.1) 2)) (I1 := I) (zs_rf z) rfl ?_ (fun _ _ => rfl) ?_
  · rw [c121]
    simp (decide := true) only [if_true, if_false]
    rfl
  · intro J z2 HJ hq
    have rb := RB_0 (v := e_n 0) (rel_rb HJ)
    refine ⟨e_u J 489 0 (e_n 0), e_u J 489 0 (e_n 0) 489 1, e_E_ret (d := d + 9) ?_, RfE_0, K0, ?_⟩
    · show e_L (d + 9) 242 0 [.ref 489, .int (e_n (((0 : Nat) : Nat) : Int))] [] (mk J z2) = _
      rw [C242_0, right_y K0 ⟨by decide, by decide⟩, e_rI_i, C242_17 (fun _ h => absurd (by decide) h)]
      simp (decide := true) only [if_true, if_false]
    · rw [e_u_ne (by decide), rel_q hq 489 1 (by decide), (rel_rb H).1, (rel_bc H).1]
theorem F121_1 {d : Nat} {c1 : Int32} {I : Nat → Nat → Int32} {z : e_Z} {B : e_B} (H : Rel I z B) : Face d c1 I z 121 242 [.int (e_n (((1 : Nat) : Nat) : Int))] := by
  have wb := rel_wb H
  have hb := B2_bd z.2.1.1
  refine face_rd H (r := .inl (I (bd z.2.1.1 + 1) 0)) (I1 := I) (zs_rf z) rfl ?_ (fun _ _ => rfl) ?_
  · rw [c121]
    simp (decide := true) only [if_true, if_false]
    rfl
  · intro J z2 HJ hq
    have rb := RB_0 (v := e_n 0) (rel_rb HJ)
    refine ⟨e_u J 489 0 (e_n 0), e_u J 489 0 (e_n 0) 489 2, e_E_ret (d := d + 9) ?_, RfE_0, K0, ?_⟩
    · show e_L (d + 9) 242 0 [.ref 489, .int (e_n (((1 : Nat) : Nat) : Int))] [] (mk J z2) = _
      rw [C242_0, right_y K0 ⟨by decide, by decide⟩, e_rI_i, C242_17 (fun _ _ h => absurd (by decide) h)]
      simp (decide := true) only [if_true, if_false]
    · rw [e_u_ne (by decide), rel_q hq 489 2 (by decide), (rel_rb H).2.1, (rel_bc H).2.1]
theorem F121_2 {d : Nat} {c1 : Int32} {I : Nat → Nat → Int32} {z : e_Z} {B : e_B} (H : Rel I z B) : Face d c1 I z 121 242 [.int (e_n (((2 : Nat) : Nat) : Int))] := by
  have wb := rel_wb H
  have hb := B2_bd z.2.1.1
  refine face_rd H (r := .inl (I (bd z.2.1.1 + 1) 1)) (I1 := I) (zs_rf z) rfl ?_ (fun _ _ => rfl) ?_
  · rw [c121]
    simp (decide := true) only [if_true, if_false]
    rfl
  · intro J z2 HJ hq
    have rb := RB_0 (v := e_n 0) (rel_rb HJ)
    refine ⟨e_u J 489 0 (e_n 0), e_u J 489 0 (e_n 0) 489 3, e_E_ret (d := d + 9) ?_, RfE_0, K0, ?_⟩
    · show e_L (d + 9) 242 0 [.ref 489, .int (e_n (((2 : Nat) : Nat) : Int))] [] (mk J z2) = _
      rw [C242_0, right_y K0 ⟨by decide, by decide⟩, e_rI_i, C242_17 (fun _ _ _ h => absurd (by decide) h)]
      simp (decide := true) only [if_true, if_false]
    · rw [e_u_ne (by decide), rel_q hq 489 3 (by decide), (rel_rb H).2.2.1, (rel_bc H).2.2.1]
theorem F121_3 {d : Nat} {c1 : Int32} {I : Nat → Nat → Int32} {z : e_Z} {B : e_B} (H : Rel I z B) : Face d c1 I z 121 242 [.int (e_n (((3 : Nat) : Nat) : Int))] := by
  have wb := rel_wb H
  have hb := B2_bd z.2.1.1
  refine face_rd H (r := .inl (I (bd z.2.1.1) 6)) (I1 := I) (zs_rf z) rfl ?_ (fun _ _ => rfl) ?_
  · rw [c121]
    simp (decide := true) only [if_true, if_false]
    rfl
  · intro J z2 HJ hq
    have rb := RB_0 (v := e_n 0) (rel_rb HJ)
    refine ⟨e_u J 489 0 (e_n 0), e_u J 489 0 (e_n 0) 489 4, e_E_ret (d := d + 9) ?_, RfE_0, K0, ?_⟩
    · show e_L (d + 9) 242 0 [.ref 489, .int (e_n (((3 : Nat) : Nat) : Int))] [] (mk J z2) = _
      rw [C242_0, right_y K0 ⟨by decide, by decide⟩, e_rI_i, C242_17 (fun _ _ _ _ h => absurd (by decide) h)]
      simp (decide := true) only [if_true, if_false]
    · rw [e_u_ne (by decide), rel_q hq 489 4 (by decide), (rel_rb H).2.2.2.1, (rel_bc H).2.2.2.1]
theorem F121_4 {d : Nat} {c1 : Int32} {I : Nat → Nat → Int32} {z : e_Z} {B : e_B} (H : Rel I z B) : Face d c1 I z 121 242 [.int (e_n (((4 : Nat) : Nat) : Int))] := by
  have wb := rel_wb H
  have hb := B2_bd z.2.1.1
  refine face_rd H (r := .inl (I 51 0)) (I1 := I) (zs_rf z) rfl ?_ (fun _ _ => rfl) ?_
  · rw [c121]
    simp (decide := true) only [if_true, if_false]
    rfl
  · intro J z2 HJ hq
    have rb := RB_0 (v := e_n 0) (rel_rb HJ)
    refine ⟨e_u J 489 0 (e_n 0), e_u J 489 0 (e_n 0) 515 0, e_E_ret (d := d + 9) ?_, RfE_0, K0, ?_⟩
    · show e_L (d + 9) 242 0 [.ref 489, .int (e_n (((4 : Nat) : Nat) : Int))] [] (mk J z2) = _
      rw [C242_0, right_y K0 ⟨by decide, by decide⟩, e_rI_i, C242_17 (fun _ _ _ _ _ h => absurd (by decide) h)]
      simp (decide := true) only [if_true, if_false]
    · rw [K515 (by decide), rel_q hq 515 0 (by decide), (rel_mc H).1]
theorem F121_5 {d : Nat} {c1 : Int32} {I : Nat → Nat → Int32} {z : e_Z} {B : e_B} (H : Rel I z B) : Face d c1 I z 121 242 [.int (e_n (((5 : Nat) : Nat) : Int))] := by
  have wb := rel_wb H
  have hb := B2_bd z.2.1.1
  refine face_rd H (r := .inl (I 51 1)) (I1 := I) (zs_rf z) rfl ?_ (fun _ _ => rfl) ?_
  · rw [c121]
    simp (decide := true) only [if_true, if_false]
    rfl
  · intro J z2 HJ hq
    have rb := RB_0 (v := e_n 0) (rel_rb HJ)
    refine ⟨e_u J 489 0 (e_n 0), lm B (J 515), e_E_ret (d := d + 9) ?_, RfE_0, K0, ?_⟩
    · show e_L (d + 9) 242 0 [.ref 489, .int (e_n (((5 : Nat) : Nat) : Int))] [] (mk J z2) = _
      rw [C242_0, right_y K0 ⟨by decide, by decide⟩, e_rI_i, C242_17 (fun _ _ _ _ _ _ h => absurd (by decide) h)]
      simp (decide := true) only [if_true, if_false]
      rw [c223h (B := B) (M := J 515) R2_515 (rel_wb H).2.2.2.1 rb.2.2.2.1 (fun j _ => by rw [K515 (by decide)]), e_rI_i, C242_127]
    · rw [hq 515 (by decide), (rel_mc H).2.1]
theorem F121_6 {d : Nat} {c1 : Int32} {I : Nat → Nat → Int32} {z : e_Z} {B : e_B} (H : Rel I z B) : Face d c1 I z 121 242 [.int (e_n (((6 : Nat) : Nat) : Int))] := by
  have wb := rel_wb H
  have hb := B2_bd z.2.1.1
  refine face_rd H (r := .inl (I 51 2)) (I1 := I) (zs_rf z) rfl ?_ (fun _ _ => rfl) ?_
  · rw [c121]
    simp (decide := true) only [if_true, if_false]
    rfl
  · intro J z2 HJ hq
    have rb := RB_0 (v := e_n 0) (rel_rb HJ)
    refine ⟨e_u J 489 0 (e_n 0), e_u J 489 0 (e_n 0) 515 1, e_E_ret (d := d + 9) ?_, RfE_0, K0, ?_⟩
    · show e_L (d + 9) 242 0 [.ref 489, .int (e_n (((6 : Nat) : Nat) : Int))] [] (mk J z2) = _
      rw [C242_0, right_y K0 ⟨by decide, by decide⟩, e_rI_i, C242_17 (fun _ _ _ _ _ _ _ h => absurd (by decide) h)]
      simp (decide := true) only [if_true, if_false]
    · rw [K515 (by decide), rel_q hq 515 1 (by decide), (rel_mc H).2.2.1]
theorem F121_7 {d : Nat} {c1 : Int32} {I : Nat → Nat → Int32} {z : e_Z} {B : e_B} (H : Rel I z B) : Face d c1 I z 121 242 [.int (e_n (((7 : Nat) : Nat) : Int))] := by
  have wb := rel_wb H
  have hb := B2_bd z.2.1.1
  refine face_rd H (r := .inl (v49 I 51 (bd z.2.1.1))) (I1 := I) (zs_rf z) rfl ?_ (fun _ _ => rfl) ?_
  · rw [c121]
    simp (decide := true) only [if_true, if_false]
    rfl
  · intro J z2 HJ hq
    have rb := RB_0 (v := e_n 0) (rel_rb HJ)
    refine ⟨e_u J 489 0 (e_n 0), aw B (J 515), e_E_ret (d := d + 9) ?_, RfE_0, K0, ?_⟩
    · show e_L (d + 9) 242 0 [.ref 489, .int (e_n (((7 : Nat) : Nat) : Int))] [] (mk J z2) = _
      rw [C242_0, right_y K0 ⟨by decide, by decide⟩, e_rI_i, C242_17 (fun _ _ _ _ _ _ _ _ h => absurd (by decide) h)]
      simp (decide := true) only [if_true, if_false]
      rw [c240h (B := B) (M := J 515) R2_515 wb (rel_wm HJ) rb (fun j _ => by rw [K515 (by decide)]), e_rI_i, C242_143]
    · rw [hq 515 (by decide), v49h hb M3_51 wb (rel_wm H) (rel_bc H) (rel_mc H)]
theorem F121_8 {d : Nat} {c1 : Int32} {I : Nat → Nat → Int32} {z : e_Z} {B : e_B} (H : Rel I z B) : Face d c1 I z 121 242 [.int (e_n (((8 : Nat) : Nat) : Int))] := by
  have wb := rel_wb H
  have hb := B2_bd z.2.1.1
  refine face_rd H (r := .inl (I 51 3)) (I1 := I) (zs_rf z) rfl ?_ (fun _ _ => rfl) ?_
  · rw [c121]
    simp (decide := true) only [if_true, if_false]
    rfl
  · intro J z2 HJ hq
    have rb := RB_0 (v := e_n 0) (rel_rb HJ)
    refine ⟨e_u J 489 0 (e_n 0), e_u J 489 0 (e_n 0) 515 2, e_E_ret (d := d + 9) ?_, RfE_0, K0, ?_⟩
    · show e_L (d + 9) 242 0 [.ref 489, .int (e_n (((8 : Nat) : Nat) : Int))] [] (mk J z2) = _
      rw [C242_0, right_y K0 ⟨by decide, by decide⟩, e_rI_i, C242_17 (fun _ _ _ _ _ _ _ _ _ h => absurd (by decide) h)]
      simp (decide := true) only [if_true, if_false]
    · rw [K515 (by decide), rel_q hq 515 2 (by decide), (rel_mc H).2.2.2.1]
theorem F121_9 {d : Nat} {c1 : Int32} {I : Nat → Nat → Int32} {z : e_Z} {B : e_B} (H : Rel I z B) : Face d c1 I z 121 242 [.int (e_n (((9 : Nat) : Nat) : Int))] := by
  have wb := rel_wb H
  have hb := B2_bd z.2.1.1
  refine face_rd H (r := .inl (tf (¬ (I 51 4 = 0)))) (I1 := I) (zs_rf z) rfl ?_ (fun _ _ => rfl) ?_
  · rw [c121]
    simp (decide := true) only [if_true, if_false]
    rfl
  · intro J z2 HJ hq
    have rb := RB_0 (v := e_n 0) (rel_rb HJ)
    refine ⟨e_u J 489 0 (e_n 0), e_u J 489 0 (e_n 0) 515 3, e_E_ret (d := d + 9) ?_, RfE_0, K0, ?_⟩
    · show e_L (d + 9) 242 0 [.ref 489, .int (e_n (((9 : Nat) : Nat) : Int))] [] (mk J z2) = _
      rw [C242_0, right_y K0 ⟨by decide, by decide⟩, e_rI_i, C242_17 (fun _ _ _ _ _ _ _ _ _ _ h => absurd (by decide) h)]
      simp (decide := true) only [if_true, if_false]
    · rw [K515 (by decide), rel_q hq 515 3 (by decide), (rel_mc H).2.2.2.2.1]
      rcases (rel_wm H).2.2.2.1 with h | h
      · rw [h]; decide
      · rw [h]; decide
theorem F121_10 {d : Nat} {c1 : Int32} {I : Nat → Nat → Int32} {z : e_Z} {B : e_B} (H : Rel I z B) : Face d c1 I z 121 242 [.int (e_n (((10 : Nat) : Nat) : Int))] := by
  have wb := rel_wb H
  have hb := B2_bd z.2.1.1
  refine face_rd H (r := .inl ((v8 I (bd z.2.1.1) (I 51 1)) &&& ((I 51 1) ^^^ (e_n (-1))))) (I1 := I) (zs_rf z) rfl ?_ (fun _ _ => rfl) ?_
  · rw [c121]
    simp (decide := true) only [if_true, if_false]
    rfl
  · intro J z2 HJ hq
    have rb := RB_0 (v := e_n 0) (rel_rb HJ)
    refine ⟨e_u J 489 0 (e_n 0), baS B (J 515), e_E_ret (d := d + 9) ?_, RfE_0, K0, ?_⟩
    · show e_L (d + 9) 242 0 [.ref 489, .int (e_n (((10 : Nat) : Nat) : Int))] [] (mk J z2) = _
      rw [C242_0, right_y K0 ⟨by decide, by decide⟩, e_rI_i, C242_17 (fun _ _ _ _ _ _ _ _ _ _ _ h => absurd (by decide) h)]
      simp (decide := true) only [if_true, if_false]
      rw [c241h (B := B) (M := J 515) wb rb (fun j _ => by rw [K515 (by decide)]), e_rI_i, C242_162]
    · rw [hq 515 (by decide), (rel_mc H).2.1, v8_msk hb wb (rel_bc H)]; rfl
theorem F121_11 {d : Nat} {c1 : Int32} {I : Nat → Nat → Int32} {z : e_Z} {B : e_B} (H : Rel I z B) : Face d c1 I z 121 242 [.int (e_n (((11 : Nat) : Nat) : Int))] := by
  have wb := rel_wb H
  have hb := B2_bd z.2.1.1
  refine face_rd H (r := .inl (I 50 3)) (I1 := I) (zs_rf z) rfl ?_ (fun _ _ => rfl) ?_
  · rw [c121]
    simp (decide := true) only [if_true, if_false]
    rfl
  · intro J z2 HJ hq
    have rb := RB_0 (v := e_n 0) (rel_rb HJ)
    refine ⟨e_u J 489 0 (e_n 0), e_u J 489 0 (e_n 0) 489 56, e_E_ret (d := d + 9) ?_, RfE_0, K0, ?_⟩
    · show e_L (d + 9) 242 0 [.ref 489, .int (e_n (((11 : Nat) : Nat) : Int))] [] (mk J z2) = _
      rw [C242_0, right_y K0 ⟨by decide, by decide⟩, e_rI_i, C242_17 (fun _ _ _ _ _ _ _ _ _ _ _ _ h => absurd (by decide) h)]
      simp (decide := true) only [if_true, if_false]
    · rw [e_u_ne (by decide), rel_q hq 489 56 (by decide)]
      obtain ⟨-, -, ⟨o, n, -, -, -, h1, h2, -⟩, -⟩ := rel_st H
      rw [h1, h2]
theorem F121_12 {d : Nat} {c1 : Int32} {I : Nat → Nat → Int32} {z : e_Z} {B : e_B} (H : Rel I z B) : Face d c1 I z 121 242 [.int (e_n (((12 : Nat) : Nat) : Int))] := by
  have wb := rel_wb H
  have hb := B2_bd z.2.1.1
  refine face_rd H (r := .inl (I 50 4)) (I1 := I) (zs_rf z) rfl ?_ (fun _ _ => rfl) ?_
  · rw [c121]
    simp (decide := true) only [if_true, if_false]
    rfl
  · intro J z2 HJ hq
    have rb := RB_0 (v := e_n 0) (rel_rb HJ)
    refine ⟨e_u J 489 0 (e_n 0), e_u J 489 0 (e_n 0) 489 76, e_E_ret (d := d + 9) ?_, RfE_0, K0, ?_⟩
    · show e_L (d + 9) 242 0 [.ref 489, .int (e_n (((12 : Nat) : Nat) : Int))] [] (mk J z2) = _
      rw [C242_0, right_y K0 ⟨by decide, by decide⟩, e_rI_i, C242_17 (fun _ _ _ _ _ _ _ _ _ _ _ _ _ h => absurd (by decide) h)]
      simp (decide := true) only [if_true, if_false]
    · rw [e_u_ne (by decide), rel_q hq 489 76 (by decide)]
      obtain ⟨-, -, -, n, -, h1, h2, -⟩ := rel_st H
      rw [h1, h2]
theorem F121_13 {d : Nat} {c1 : Int32} {I : Nat → Nat → Int32} {z : e_Z} {B : e_B} (H : Rel I z B) : Face d c1 I z 121 242 [.int (e_n (((13 : Nat) : Nat) : Int))] := by
  have wb := rel_wb H
  have hb := B2_bd z.2.1.1
  refine face_rd H (r := .inl (I 1 1)) (I1 := I) (zs_rf z) rfl ?_ (fun _ _ => rfl) ?_
  · rw [c121]
    simp (decide := true) only [if_true, if_false]
    rfl
  · intro J z2 HJ hq
    have rb := RB_0 (v := e_n 0) (rel_rb HJ)
    refine ⟨e_u J 489 0 (e_n 0), e_u J 489 0 (e_n 0) 489 19, e_E_ret (d := d + 9) ?_, RfE_0, K0, ?_⟩
    · show e_L (d + 9) 242 0 [.ref 489, .int (e_n (((13 : Nat) : Nat) : Int))] [] (mk J z2) = _
      rw [C242_0, right_y K0 ⟨by decide, by decide⟩, e_rI_i, C242_17 (fun _ _ _ _ _ _ _ _ _ _ _ _ _ _ h => absurd (by decide) h)]
      simp (decide := true) only [if_true, if_false]
    · rw [e_u_ne (by decide), rel_q hq 489 19 (by decide)]
      obtain ⟨n, -, h1, h2, -⟩ := H.2.2.2.2.2.1
      rw [h1, h2]
theorem F121_14 {d : Nat} {c1 : Int32} {I : Nat → Nat → Int32} {z : e_Z} {B : e_B} (H : Rel I z B) : Face d c1 I z 121 242 [.int (e_n (((14 : Nat) : Nat) : Int))] := by
  have wb := rel_wb H
  have hb := B2_bd z.2.1.1
  refine face_rd H (r := .inl (rd I 3 (e_n 0))) (I1 := I) (zs_rf z) rfl ?_ (fun _ _ => rfl) ?_
  · rw [c121]
    simp (decide := true) only [if_true, if_false]
    rfl
  · intro J z2 HJ hq
    have rb := RB_0 (v := e_n 0) (rel_rb HJ)
    refine ⟨e_u J 489 0 (e_n 0), e_u J 489 0 (e_n 0) 501 (e_n (((14 : Nat) : Nat) : Int) - e_n 14).toNatClampNeg, e_E_ret (d := d + 9) ?_, RfE_0, K0, ?_⟩
    · show e_L (d + 9) 242 0 [.ref 489, .int (e_n (((14 : Nat) : Nat) : Int))] [] (mk J z2) = _
      rw [C242_0, right_y K0 ⟨by decide, by decide⟩, e_rI_i, C242_17 (fun _ _ _ _ _ _ _ _ _ _ _ _ _ _ _ => by unfold InR; decide)]
      simp (decide := true) only [if_true, if_false]
    · rw [K515 (by decide), show (e_n (((14 : Nat) : Nat) : Int) - e_n 14).toNatClampNeg = 0 from by decide, rel_q hq 501 0 (by decide), show (e_n 0) = e_n ((0 : Nat) : Nat) from rfl, rd_N (r := 3) (by decide)]
      exact (H.2.2.2.2.2.2.2.1 0 (by decide)).symm
theorem F121_15 {d : Nat} {c1 : Int32} {I : Nat → Nat → Int32} {z : e_Z} {B : e_B} (H : Rel I z B) : Face d c1 I z 121 242 [.int (e_n (((15 : Nat) : Nat) : Int))] := by
  have wb := rel_wb H
  have hb := B2_bd z.2.1.1
  refine face_rd H (r := .inl (rd I 3 (e_n 1))) (I1 := I) (zs_rf z) rfl ?_ (fun _ _ => rfl) ?_
  · rw [c121]
    simp (decide := true) only [if_true, if_false]
    rfl
  · intro J z2 HJ hq
    have rb := RB_0 (v := e_n 0) (rel_rb HJ)
    refine ⟨e_u J 489 0 (e_n 0), e_u J 489 0 (e_n 0) 501 (e_n (((15 : Nat) : Nat) : Int) - e_n 14).toNatClampNeg, e_E_ret (d := d + 9) ?_, RfE_0, K0, ?_⟩
    · show e_L (d + 9) 242 0 [.ref 489, .int (e_n (((15 : Nat) : Nat) : Int))] [] (mk J z2) = _
      rw [C242_0, right_y K0 ⟨by decide, by decide⟩, e_rI_i, C242_17 (fun _ _ _ _ _ _ _ _ _ _ _ _ _ _ _ => by unfold InR; decide)]
      simp (decide := true) only [if_true, if_false]
    · rw [K515 (by decide), show (e_n (((15 : Nat) : Nat) : Int) - e_n 14).toNatClampNeg = 1 from by decide, rel_q hq 501 1 (by decide), show (e_n 1) = e_n ((1 : Nat) : Nat) from rfl, rd_N (r := 3) (by decide)]
      exact (H.2.2.2.2.2.2.2.1 1 (by decide)).symm
theorem F121_16 {d : Nat} {c1 : Int32} {I : Nat → Nat → Int32} {z : e_Z} {B : e_B} (H : Rel I z B) : Face d c1 I z 121 242 [.int (e_n (((16 : Nat) : Nat) : Int))] := by
  have wb := rel_wb H
  have hb := B2_bd z.2.1.1
  refine face_rd H (r := .inl (rd I 3 (e_n 2))) (I1 := I) (zs_rf z) rfl ?_ (fun _ _ => rfl) ?_
  · rw [c121]
    simp (decide := true) only [if_true, if_false]
    rfl
  · intro J z2 HJ hq
    have rb := RB_0 (v := e_n 0) (rel_rb HJ)
    refine ⟨e_u J 489 0 (e_n 0), e_u J 489 0 (e_n 0) 501 (e_n (((16 : Nat) : Nat) : Int) - e_n 14).toNatClampNeg, e_E_ret (d := d + 9) ?_, RfE_0, K0, ?_⟩
    · show e_L (d + 9) 242 0 [.ref 489, .int (e_n (((16 : Nat) : Nat) : Int))] [] (mk J z2) = _
      rw [C242_0, right_y K0 ⟨by decide, by decide⟩, e_rI_i, C242_17 (fun _ _ _ _ _ _ _ _ _ _ _ _ _ _ _ => by unfold InR; decide)]
      simp (decide := true) only [if_true, if_false]
    · rw [K515 (by decide), show (e_n (((16 : Nat) : Nat) : Int) - e_n 14).toNatClampNeg = 2 from by decide, rel_q hq 501 2 (by decide), show (e_n 2) = e_n ((2 : Nat) : Nat) from rfl, rd_N (r := 3) (by decide)]
      exact (H.2.2.2.2.2.2.2.1 2 (by decide)).symm
theorem F121 {d : Nat} {c1 : Int32} {I : Nat → Nat → Int32} {z : e_Z} {B : e_B} (H : Rel I z B) {x : Int32} : Face d c1 I z 121 242 [.int x] := by
  by_cases hw : x < 0 ∨ ¬ x < e_n ((17 : Nat) : Nat)
  · have hne := ne_n (by decide) hw
    refine face_rd H (r := .inr 0) (I1 := I) (zs_rf z) rfl ?_ (fun _ _ => rfl) ?_
    · rw [c121, if_neg (show ¬ x = 0 from hne 0 (by decide)), if_neg (show ¬ x = 1 from hne 1 (by decide)), if_neg (show ¬ x = 2 from hne 2 (by decide)), if_neg (show ¬ x = 3 from hne 3 (by decide)), if_neg (show ¬ x = 4 from hne 4 (by decide)), if_neg (show ¬ x = 5 from hne 5 (by decide)), if_neg (show ¬ x = 6 from hne 6 (by decide)), if_neg (show ¬ x = 7 from hne 7 (by decide)), if_neg (show ¬ x = 8 from hne 8 (by decide)), if_neg (show ¬ x = 9 from hne 9 (by decide)), if_neg (show ¬ x = 10 from hne 10 (by decide)), if_neg (show ¬ x = 11 from hne 11 (by decide)), if_neg (show ¬ x = 12 from hne 12 (by decide)), if_neg (show ¬ x = 13 from hne 13 (by decide)), if_neg (show ¬ x = 14 from hne 14 (by decide)), if_neg (show ¬ x = 15 from hne 15 (by decide)), if_neg (show ¬ x = 16 from hne 16 (by decide))]
      rfl
    · intro J z2 HJ hq
      refine ⟨e_u (e_u J 489 0 (e_n 0)) 489 0 (e_n 1), e_n 0, e_E_ret (d := d + 9) ?_, RfE_tr RfE_0 RfE_0, e_u_same⟩
      show e_L (d + 9) 242 0 [.ref 489, .int x] [] (mk J z2) = _
      rw [C242_0, right_n K0 (fun q => hw.elim q.1 (fun v => v (Eq.mpr (most_n (k := 16) (by decide)) q.2))) (by decide), e_rI_i, C242_17 (fun h => absurd (by decide) h), if_pos (by decide)]
  · obtain ⟨k, hk, rfl⟩ := in_n (by decide) hw
    match k, hk with
    | 0, _ => exact F121_0 H
    | 1, _ => exact F121_1 H
    | 2, _ => exact F121_2 H
    | 3, _ => exact F121_3 H
    | 4, _ => exact F121_4 H
    | 5, _ => exact F121_5 H
    | 6, _ => exact F121_6 H
    | 7, _ => exact F121_7 H
    | 8, _ => exact F121_8 H
    | 9, _ => exact F121_9 H
    | 10, _ => exact F121_10 H
    | 11, _ => exact F121_11 H
    | 12, _ => exact F121_12 H
    | 13, _ => exact F121_13 H
    | 14, _ => exact F121_14 H
    | 15, _ => exact F121_15 H
    | 16, _ => exact F121_16 H
    | _ + 17, h => exact absurd h (by omega)
theorem v52h {I : Nat → Nat → Int32} {a m : Nat} {B : e_B} {M : Nat → Int32} (ha : M3 a) (wb : WB B) (hM : MoC I a B M) (hm : m < bMa B) : v52 I a (e_n (m : Nat)) = itr (fun p q => q ||| (if M (13 + p) = e_n (m : Nat) then e_shl (e_n 1) (e_n (p : Nat)) else e_n 0)) (bPe B) 0 (e_n 0) := by
  have wb1 : bMa B ≤ 3 := wb.1
  have wb4 : bPe B ≤ 9 := wb.2.2.2.1
  unfold v52
  have h1 : ∀ k, bPe B + k ≤ 9 → itr (fun i52 q52 => q52 ||| (if rd I (a + 2) (e_n (i52 : Nat)) = e_n (m : Nat) then e_shl (e_n 1) (e_n (i52 : Nat)) else e_n 0)) (bPe B + k) 0 (e_n 0) = itr (fun p q => q ||| (if M (13 + p) = e_n (m : Nat) then e_shl (e_n 1) (e_n (p : Nat)) else e_n 0)) (bPe B) 0 (e_n 0) := by
    intro k
    induction k with
    | zero =>
      intro _
      apply itr_congr
      intro p s hp
      rw [rd_N (by rw [lna2 ha]; omega), (hM.2.2.2.2.2.1 p hp).2.1]
    | succ k ih =>
      intro hk
      rw [show bPe B + (k + 1) = bPe B + k + 1 by omega, itr_succ, ih (by omega), Nat.zero_add, rd_N (by rw [lna2 ha]; omega), hM.2.2.2.2.2.2.1 (bPe B + k) (by omega) (by omega), if_neg (fun h => e_n_neg1 (by omega) h.symm)]
      apply bt_ext
      intro i _
      rw [bt_or, bt_0, Bool.or_false]
  have := h1 (9 - bPe B) (by omega)
  rwa [show bPe B + (9 - bPe B) = 9 by omega] at this
theorem F122 {d : Nat} {c1 : Int32} {I : Nat → Nat → Int32} {z : e_Z} {B : e_B} (H : Rel I z B) {x x2 : Int32} : Face d c1 I z 122 247 [.int x, .int x2] := by
  have wb := rel_wb H
  have wb1 : bMa B ≤ 3 := wb.1
  have wb4 : bPe B ≤ 9 := wb.2.2.2.1
  have hb := B2_bd z.2.1.1
  have hmc := (rel_bc H).1
  by_cases hm : x < 0 ∨ ¬ x < e_n (bMa B : Nat)
  · refine face_rd H (r := .inr 0) (I1 := I) (zs_rf z) rfl ?_ (fun _ _ => rfl) ?_
    · rw [c122, hmc, if_pos hm]; rfl
    · intro J z2 HJ hq
      refine ⟨e_u (e_u J 489 0 (e_n 0)) 489 0 (e_n 1), e_n 0, e_E_ret (d := d + 9) ?_, RfE_tr RfE_0 RfE_0, e_u_same⟩
      show e_L (d + 9) 247 0 [.ref 489, .int x, .int x2, .null, .null] [] (mk J z2) = _
      rw [C247_0, c243n (RB_0 (rel_rb HJ)) K0 hm, e_rI_i, C247_10, if_pos (by decide)]
  by_cases hw : x2 < 0 ∨ ¬ x2 < e_n ((4 : Nat) : Nat)
  · have hne := ne_n (by decide) hw
    refine face_rd H (r := .inr 0) (I1 := I) (zs_rf z) rfl ?_ (fun _ _ => rfl) ?_
    · rw [c122, hmc, if_neg hm, if_neg (show ¬ x2 = 0 from hne 0 (by decide)), if_neg (show ¬ x2 = 1 from hne 1 (by decide)), if_neg (show ¬ x2 = 2 from hne 2 (by decide)), if_neg (show ¬ x2 = 3 from hne 3 (by decide))]; rfl
    · intro J z2 HJ hq
      refine ⟨e_u (e_u J 489 0 (e_n 0)) 489 0 (e_n 1), e_n 0, e_E_ret (d := d + 9) ?_, RfE_tr RfE_0 RfE_0, e_u_same⟩
      show e_L (d + 9) 247 0 [.ref 489, .int x, .int x2, .null, .null] [] (mk J z2) = _
      rw [C247_0, c243y (RB_0 (rel_rb HJ)) K0 hm, e_rI_i, C247_10, if_neg (by decide), c246n (x2 := e_n 3) (k := 3) rfl (by decide) K0 hw, e_rI_i, C247_19 (fun h => absurd (by decide) h), if_pos (by decide)]
  obtain ⟨m, hmm, rfl⟩ := in_n (by omega) hm
  obtain ⟨k, hk, rfl⟩ := in_n (by decide) hw
  obtain ⟨-, -, -, -, -, -, -, -, -, hf, -⟩ := rel_bc H
  obtain ⟨-, -, -, -, -, -, -, md⟩ := rel_mc H
  have pre : ∀ (J : Nat → Nat → Int32) (z2 : e_Z), Rel J z2 B → e_L (d + 9) 247 0 [.ref 489, .int (e_n (m : Nat)), .int (e_n (k : Nat)), .null, .null] [] (mk J z2) = e_L (d + 9) 247 19 [.ref 489, .int (e_n (m : Nat)), .int (e_n (k : Nat)), .null, .null] [.int (e_n 1)] (mk (e_u J 489 0 (e_n 0)) z2) := by
    intro J z2 HJ
    rw [C247_0, c243y (RB_0 (rel_rb HJ)) K0 hm, e_rI_i, C247_10, if_neg (by decide), c246y (x2 := e_n 3) (k := 3) rfl (by decide) K0 hw, e_rI_i]
  have g31 : InR (e_n 31 + e_n (m : Nat)) 34 := ixI (a := 31) (by omega) (by decide)
  have i31 : (e_n 31 + e_n (m : Nat)).toNatClampNeg = 31 + m := ix (a := 31) (by omega)
  match k, hk with
  | 0, _ =>
    refine face_rd H (r := .inl (I 515 (31 + m))) (I1 := I) (zs_rf z) rfl ?_ (fun _ _ => rfl) ?_
    · rw [c122, hmc, if_neg hm, if_pos (by decide), rd_N (r := 55) (k := m) (Nat.lt_of_lt_of_le hmm (Nat.le_trans wb1 (by decide))), md m hmm]; rfl
    · intro J z2 HJ hq
      refine ⟨_, J 515 (31 + m), e_E_ret (d := d + 9) ((pre J z2 HJ).trans ((C247_19 (fun _ _ _ => g31)).trans ?_)), RfE_0, K0, ?_⟩
      · rw [if_neg (by decide), if_pos (by decide), if_pos (by decide), i31, K515 (by decide)]
      · rw [hq 515 (by decide)]
  | 1, _ =>
    refine face_rd H (r := .inl (fm B (e_n (m : Nat)) (e_n 1))) (I1 := I) (zs_rf z) rfl ?_ (fun _ _ => rfl) ?_
    · rw [c122, hmc, if_neg hm, if_neg (by decide), if_pos (by decide), rd_N (by rw [lnb13 hb]; omega), (hf m hmm).1]; rfl
    · intro J z2 HJ hq
      refine ⟨_, fm B (e_n (m : Nat)) (e_n 1), e_E_ret (d := d + 9) ((pre J z2 HJ).trans ((C247_19 (fun _ _ _ => g31)).trans ?_)), RfE_0, K0, ?_⟩
      · rw [if_neg (by decide), if_pos (by decide), if_neg (by decide), show tf (e_n ((1 : Nat) : Nat) = e_n 1) = e_n 1 from by decide, c226h wb.2.2.2.2.2.1 (RB_0 (rel_rb HJ)), e_rI_i, C247_60]
      · rfl
  | 2, _ =>
    refine face_rd H (r := .inl (fm B (e_n (m : Nat)) (e_n 0))) (I1 := I) (zs_rf z) rfl ?_ (fun _ _ => rfl) ?_
    · rw [c122, hmc, if_neg hm, if_neg (by decide), if_neg (by decide), if_pos (by decide), rd_N (by rw [lnb14 hb]; omega), (hf m hmm).2.1]; rfl
    · intro J z2 HJ hq
      refine ⟨_, fm B (e_n (m : Nat)) (e_n 0), e_E_ret (d := d + 9) ((pre J z2 HJ).trans ((C247_19 (fun _ _ _ => g31)).trans ?_)), RfE_0, K0, ?_⟩
      · rw [if_neg (by decide), if_pos (by decide), if_neg (by decide), show tf (e_n ((2 : Nat) : Nat) = e_n 1) = e_n 0 from by decide, c226h wb.2.2.2.2.2.1 (RB_0 (rel_rb HJ)), e_rI_i, C247_60]
      · rfl
  | 3, _ =>
    refine face_rd H (r := .inl (itr (fun p q => q ||| (if I 515 (13 + p) = e_n (m : Nat) then e_shl (e_n 1) (e_n (p : Nat)) else e_n 0)) (bPe B) 0 (e_n 0))) (I1 := I) (zs_rf z) rfl ?_ (fun _ _ => rfl) ?_
    · rw [c122, hmc, if_neg hm, if_neg (by decide), if_neg (by decide), if_neg (by decide), if_pos (by decide), v52h M3_51 wb (rel_mc H) hmm]; rfl
    · intro J z2 HJ hq
      have hp : e_u J 489 0 (e_n 0) 489 4 = e_n (bPe B : Nat) := by rw [e_u_ne (by decide)]; exact (rel_rb HJ).2.2.2.1
      refine ⟨_, itr (fun p q => q ||| (if I 515 (13 + p) = e_n (m : Nat) then e_shl (e_n 1) (e_n (p : Nat)) else e_n 0)) (bPe B) 0 (e_n 0), e_E_ret (d := d + 9) ((pre J z2 HJ).trans ((C247_19 (fun _ _ _ => g31)).trans ?_)), RfE_0, K0, ?_⟩
      · rw [if_neg (by decide), if_neg (by decide)]
        refine (loopI (fun (i x2 : Int32) => e_L (d + 9) 247 66 [.ref 489, .int (e_n (m : Nat)), .int (e_n ((3 : Nat) : Nat)), .int x2, .int i] [] (mk (e_u J 489 0 (e_n 0)) z2)) (bPe B) (by omega) (fun p q => q ||| (if I 515 (13 + p) = e_n (m : Nat) then e_shl (e_n 1) (e_n (p : Nat)) else e_n 0)) (fun i a hi => ?_) (e_n 0)).trans ?_
        · refine (C247_66 (fun _ => ixI (a := 13) (by omega) (by decide))).trans ?_
          rw [if_pos (by rw [hp, e_n_ltN (by omega) (by omega)]; exact hi), show (e_n 13 + e_n (i : Nat)).toNatClampNeg = 13 + i from ix (a := 13) (by omega), K515 (by decide), hq 515 (by decide)]
        · refine (C247_66 (fun h => absurd h (by rw [hp, e_n_ltN (by omega) (by omega)]; omega))).trans ?_
          rw [if_neg (by rw [hp, e_n_ltN (by omega) (by omega)]; omega)]
      · rfl

end S77
