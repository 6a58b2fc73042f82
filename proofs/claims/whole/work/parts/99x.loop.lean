/-! the law's loop -/
section S99x
theorem L349 {D : Nat} {I : Nat → Nat → Int32} {z : e_Z} {B : e_B} {x4 : Int32} {u5 u6 : Value} (H : Rel I z B) : Nx D 349 I z x4 u5 u6 := by
  refine ⟨e_u I 489 0 (e_n 0), z, B, u5, u6, ?_, Rel_r rfl RfE_0.1 RfE_0.2 H, rfl, Nat.le_succ _, Nat.le_add_right _ _⟩
  rw [C325_349, if_pos H.2.2.2.2.2.2.1]
theorem L1605 {D : Nat} {I : Nat → Nat → Int32} {z : e_Z} {B : e_B} {x4 : Int32} {u5 u6 : Value} (H : Rel I z B) : Nx D 1605 I z x4 u5 u6 := by
  refine ⟨e_u (e_u (e_u I 50 4 (e_n 0)) 489 0 (e_n 0)) 489 76 (e_n 0), z, B, u5, u6, ?_, ?_, rfl, Nat.le_succ _, Nat.le_add_right _ _⟩
  · rw [C325_1605]
  · obtain ⟨n, hn, h56, ⟨a1, o, ho, a2, a3, a4⟩, hwa⟩ := rel_cs H
    generalize hK : e_u (e_u (e_u I 50 4 (e_n 0)) 489 0 (e_n 0)) 489 76 (e_n 0) = K
    have fr : ∀ r, r ≠ 50 → r ≠ 489 → K r = I r := fun r h1 h2 => by rw [← hK, e_u_na h2, e_u_na h2, e_u_na h1]
    have f9 : ∀ j, j ≠ 0 → j ≠ 76 → K 489 j = I 489 j := fun j h1 h2 => by rw [← hK, e_u_ne h2, e_u_ne h1, e_u_na (by decide)]
    have f50 : ∀ j, j ≠ 4 → K 50 j = I 50 j := fun j h1 => by rw [← hK, e_u_na (by decide), e_u_na (by decide), e_u_ne h1]
    refine Rel_up H rfl (fun r h1 h2 h3 h4 h5 h6 h7 h8 h9 => fr r (by omega) h1) (fun j h1 h2 h3 => f9 j (fun q => h1 (by unfold ScrF; omega)) h3) (fun k hk => by rw [fr 3 (by decide) (by decide), fr 501 (by decide) (by decide)]; exact H.2.2.2.2.2.2.2.1 k hk) ?_
    refine StR_mk (rel_wb H) (n := n) (M := I 515) (A := fun k j => I 516 (34 * k + j)) ⟨MoC_fr (fun k hk => fr _ (by omega) (by omega)) a1, o, ho, ?_, ?_, fun k hk => MoC_fr (fun j hj => fr _ (by omega) (by omega)) (a4 k hk)⟩ hn (rel_wm H) hwa ?_ ?_ ?_ ⟨0, by decide, ?_, ?_, fun k hk => absurd hk (Nat.not_lt_zero k)⟩
    · rw [f50 2 (by decide)]; exact a2
    · rw [f50 3 (by decide)]; exact a3
    · intro j hj; rw [fr 515 (by decide) (by decide)]
    · rw [f9 56 (by decide) (by decide)]; exact h56
    · intro k hk j hj; rw [fr 516 (by decide) (by decide)]
    · rw [← hK, e_u_na (by decide), e_u_na (by decide), e_u_same]; rfl
    · rw [← hK, e_u_same]; rfl
theorem L2218 {D : Nat} {I : Nat → Nat → Int32} {z : e_Z} {B : e_B} {x4 : Int32} {u5 u6 : Value} (H : Rel I z B) : Nx D 2218 I z x4 u5 u6 := by
  refine ⟨e_u I 489 0 (e_n 0), z, B, u5, u6, ?_, Rel_r rfl RfE_0.1 RfE_0.2 H, rfl, Nat.le_succ _, Nat.le_add_right _ _⟩
  rw [C325_2218, c292h (d := D + 12) H, e_rI_i, C325_2226, v49h (B2_bd z.2.1.1) M3_51 (rel_wb H) (rel_wm H) (rel_bc H) (rel_mc H), (rel_mc H).2.1, (rel_mc H).2.2.1, if_pos rfl]
theorem L2299 {D : Nat} {I : Nat → Nat → Int32} {z : e_Z} {B : e_B} {x4 : Int32} {u5 u6 : Value} (H : Rel I z B) : Nx D 2299 I z x4 u5 u6 := by
  obtain ⟨I1, e1, I2, e2, hR⟩ := Fimg (d := D + 5) H
  have e1' : e_E (D + 15) 133 [.ref 1] (mk I z) = some (.inl none, mk I1 z) := e1
  have e2' : e_E (D + 15) 294 [.ref 489] (mk I1 z) = some (.inl none, mk I2 z) := e2
  refine ⟨I2, z, B, u5, u6, ?_, hR, rfl, Nat.le_succ _, Nat.le_add_right _ _⟩
  rw [C325_2299, e1', e_rV_n, C325_2303, e2', e_rV_n, C325_2307]
theorem L2323 {D : Nat} {I : Nat → Nat → Int32} {z : e_Z} {B : e_B} {x4 : Int32} {u5 u6 : Value} (H : Rel I z B) : Nx D 2323 I z x4 u5 u6 := ⟨I, z, B, u5, u6, rfl, H, rfl, Nat.le_succ _, Nat.le_add_right _ _⟩
theorem sel_in {P : Nat → Prop} {d : Nat} (hd : P d) (x : Int32) : ∀ ps : List (Int32 × Nat), (∀ p, p ∈ ps → P p.2) → P (e_sel ps d x)
  | [], _ => hd
  | (v, t) :: r, h => by
    unfold e_sel
    split
    · exact h (v, t) (List.mem_cons_self ..)
    · exact sel_in hd x r (fun p hp => h p (List.mem_cons_of_mem _ hp))
def BoardOK (D : Nat) : Prop := ∀ (I : Nat → Nat → Int32) (z : e_Z) (B : e_B) (x1 : Int32), Rel I z B → FaceY (fun e => e = 1) (D + 4) (e_n 1) I z 118 216 [.int x1]
theorem mem_c {α : Type} {P : α → Prop} {a : α} {l : List α} (h : P a) (t : ∀ p, p ∈ l → P p) : ∀ p, p ∈ a :: l → P p := by
  intro p hp
  rcases List.mem_cons.mp hp with h1 | h1
  · rw [h1]; exact h
  · exact t p h1
theorem law_loop {D L : Nat} (hb : BoardOK D) (hL : L ≤ 3072) : ∀ (k i : Nat) (I : Nat → Nat → Int32) (z : e_Z) (B : e_B) (u5 u6 : Value), L ≤ 6 * i + 6 * k → 6 * i ≤ 4000 → Rel I z B → z.2.2.2.1 = L →
    ∃ I' z', e_L (D + 15) 325 23 [.ref 1000000, .ref 1, .ref 489, .ref 538, .int (e_n ((6 * i : Nat) : Nat)), u5, u6] [] (mk I z) = some (.inl (some (.int (e_n 1))), mk I' z') ∧ z'.2.2.1.1 ≤ z.2.2.1.1 + k ∧ z'.2.2.1.2 ≤ z.2.2.1.2 + 6 * k := by
  intro k
  have hend : ∀ (i : Nat) (I : Nat → Nat → Int32) (z : e_Z) (u5 u6 : Value), z.2.2.2.1 = L → L < 6 * i + 6 → 6 * i ≤ 4000 → e_L (D + 15) 325 23 [.ref 1000000, .ref 1, .ref 489, .ref 538, .int (e_n ((6 * i : Nat) : Nat)), u5, u6] [] (mk I z) = some (.inl (some (.int (e_n 1))), mk I z) := by
    intro i I z u5 u6 hz hlt hi
    rw [B325_23, hz, if_pos (by rw [e_cc_gt, e_n_of, e_n_sub, e_n_lt (by omega) (by omega) (by omega) (by omega)]; omega), if_pos (by decide)]
  induction k with
  | zero =>
    intro i I z B u5 u6 h1 h2 H hz
    exact ⟨I, z, hend i I z u5 u6 hz (by omega) h2, Nat.le_refl _, Nat.le_refl _⟩
  | succ k ih =>
    intro i I z B u5 u6 h1 h2 H hz
    by_cases hlt : L < 6 * i + 6
    · exact ⟨I, z, hend i I z u5 u6 hz hlt h2, Nat.le_add_right _ _, Nat.le_add_right _ _⟩
    · have g : ∀ j : Nat, j < 6 → InR (e_n ((6 * i : Nat) : Nat) + e_n (j : Nat)) z.2.2.2.1 := fun j hj => by rw [hz]; exact ixI (a := 6 * i) (by omega) (by omega)
      have g0 : InR (e_n ((6 * i : Nat) : Nat)) z.2.2.2.1 := by rw [hz]; exact InR_n (by omega) (by omega) (by omega)
      have g1 : InR (e_n ((6 * i : Nat) : Nat) + e_n 1) z.2.2.2.1 := g 1 (by decide)
      have g2 : InR (e_n ((6 * i : Nat) : Nat) + e_n 2) z.2.2.2.1 := g 2 (by decide)
      have g3 : InR (e_n ((6 * i : Nat) : Nat) + e_n 3) z.2.2.2.1 := g 3 (by decide)
      have g4 : InR (e_n ((6 * i : Nat) : Nat) + e_n 4) z.2.2.2.1 := g 4 (by decide)
      have g5 : InR (e_n ((6 * i : Nat) : Nat) + e_n 5) z.2.2.2.1 := g 5 (by decide)
      have hall := sel_in (P := fun p => Nx D p I z (e_n ((6 * i : Nat) : Nat)) u5 u6) (L2323 H) (z.2.2.2.2 (e_n ((6 * i : Nat) : Nat)).toNatClampNeg &&& e_n 63) [(0, 220), (1, 293), (2, 349), (3, 362), (4, 418), (5, 486), (6, 554), (7, 622), (8, 690), (9, 715), (10, 783), (11, 846), (12, 902), (13, 943), (14, 956), (15, 1024), (16, 1080), (17, 1136), (18, 1204), (19, 1260), (20, 1316), (21, 1372), (22, 1440), (23, 1496), (24, 1509), (25, 1605), (26, 1616), (27, 1672), (28, 1728), (29, 1784), (30, 1864), (31, 1944), (32, 2012), (33, 2068), (34, 2081), (35, 2137), (36, 2150), (37, 2218), (38, 2231), (39, 2299), (40, 2310)] (mem_c (L220 H g1 g2 g3 g4 g5) (mem_c (L293 H (fun x1 => hb I z B x1 H) g1 g2 g3 g4 g5) (mem_c (L349 H) (mem_c (L362 H g1 g2 g3 g4 g5) (mem_c (L418 H g1 g2 g3 g4 g5) (mem_c (L486 H g1 g2 g3 g4 g5) (mem_c (L554 H g1 g2 g3 g4 g5) (mem_c (L622 H g1 g2 g3 g4 g5) (mem_c (L690 H g1 g2 g3 g4 g5) (mem_c (L715 H g1 g2 g3 g4 g5) (mem_c (L783 H g1 g2 g3 g4 g5) (mem_c (L846 H g1 g2 g3 g4 g5) (mem_c (L902 H g1 g2 g3 g4 g5) (mem_c (L943 H g1 g2 g3 g4 g5) (mem_c (L956 H g1 g2 g3 g4 g5) (mem_c (L1024 H g1 g2 g3 g4 g5) (mem_c (L1080 H g1 g2 g3 g4 g5) (mem_c (L1136 H g1 g2 g3 g4 g5) (mem_c (L1204 H g1 g2 g3 g4 g5) (mem_c (L1260 H g1 g2 g3 g4 g5) (mem_c (L1316 H g1 g2 g3 g4 g5) (mem_c (L1372 H g1 g2 g3 g4 g5) (mem_c (L1440 H g1 g2 g3 g4 g5) (mem_c (L1496 H g1 g2 g3 g4 g5) (mem_c (L1509 H g1 g2 g3 g4 g5) (mem_c (L1605 H) (mem_c (L1616 H g1 g2 g3 g4 g5) (mem_c (L1672 H g1 g2 g3 g4 g5) (mem_c (L1728 H g1 g2 g3 g4 g5) (mem_c (L1784 H g1 g2 g3 g4 g5) (mem_c (L1864 H g1 g2 g3 g4 g5) (mem_c (L1944 H g1 g2 g3 g4 g5) (mem_c (L2012 H g1 g2 g3 g4 g5) (mem_c (L2068 H g1 g2 g3 g4 g5) (mem_c (L2081 H g1 g2 g3 g4 g5) (mem_c (L2137 H g1 g2 g3 g4 g5) (mem_c (L2150 H g1 g2 g3 g4 g5) (mem_c (L2218 H) (mem_c (L2231 H g1 g2 g3 g4 g5) (mem_c (L2299 H) (mem_c (L2310 H g1 g2 g3 g4 g5) (fun _ hp => absurd hp (List.not_mem_nil)))))))))))))))))))))))))))))))))))))))))))
      obtain ⟨I1, z1, B1, v5, v6, e1, hR, hs, hc, hsl⟩ := hall
      have hz1 : z1.2.2.2.1 = L := by rw [hs]; exact hz
      obtain ⟨I2, z2, e2, c1, c2⟩ := ih (i + 1) I1 z1 B1 v5 v6 (by omega) (by omega) hR hz1
      refine ⟨I2, z2, ?_, by omega, by omega⟩
      have hx : e_n ((6 * i : Nat) : Nat) + e_n 6 = e_n ((6 * (i + 1) : Nat) : Nat) := by rw [e_n_add]; congr 1
      rw [B325_23, if_neg (by rw [e_cc_gt, hz, e_n_of, e_n_sub, e_n_lt (by omega) (by omega) (by omega) (by omega)]; omega), ck_ok g0, e1, C325_2323, hx]
      exact e2
end S99x
