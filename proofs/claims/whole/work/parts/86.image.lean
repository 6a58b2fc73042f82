/-! image and restore -/
section S86
theorem lnt7 {t : Nat} (ht : T2 t) : ln (t + 7) = 8 := by rcases ht with rfl | rfl <;> rfl
theorem lnt8 {t : Nat} (ht : T2 t) : ln (t + 8) = 8 := by rcases ht with rfl | rfl <;> rfl
theorem lnt9 {t : Nat} (ht : T2 t) : ln (t + 9) = 8 := by rcases ht with rfl | rfl <;> rfl
/-- a story copied -/
theorem c95h {d t t2 n o1 : Nat} {I : Nat → Nat → Int32} {z : e_Z} {B : e_B} {M : Nat → Int32} {A : Nat → Nat → Int32} (ht : T2 t) (ht2 : T2 t2) (hne : t ≠ t2) (wb : WB B) (wm : WM B M) (wa : ∀ k, k < n → WM B (A k)) (hn : n ≤ 40) (H : CSt I t2 B M n A) (ho1 : o1 < 40) (h1 : I t 2 = e_n (o1 : Nat)) :
    ∃ I', e_E (d + 3) 95 [.ref t, .ref t2] (mk I z) = some (.inl none, mk I' z) ∧ CSt I' t B M n A ∧ (I' t 4 = I t2 4 ∧ I' t 2 = e_n (o1 : Nat)) ∧ (∀ j, j < 8 → I' (t + 7) j = I (t2 + 7) j ∧ I' (t + 8) j = I (t2 + 8) j ∧ I' (t + 9) j = I (t2 + 9) j) ∧ ∀ r, (r < t ∨ t + 210 ≤ r) → I' r = I r := by
  have hs : t + 210 ≤ t2 ∨ t2 + 210 ≤ t := by rcases ht with rfl | rfl <;> rcases ht2 with rfl | rfl <;> omega
  obtain ⟨hM, o, ho, h2, h3, h4⟩ := H
  obtain ⟨I1, e1, e2⟩ := c47h (d := d) (I := I) (z := z) (isMo_n ht) (isMo_n ht2) (by omega) (openM wm hM)
  have f1 : ∀ r, (r < t + 1 ∨ t + 1 + 4 < r) → I1 r = I r := e2.2.2.2
  have loop : ∀ (k i : Nat) (J : Nat → Nat → Int32), i + k = n → J t 2 = e_n (o1 : Nat) → J t 3 = e_n (n : Nat) → MoC J (t + 1) B M → (∀ q, q < i → MoC J (t + 10 + 5 * ((o1 + q) % 40)) B (A q)) → (∀ r, (r < t ∨ t + 210 ≤ r) → J r = I r) → (∀ r, (t + 6 ≤ r ∧ r < t + 10) → J r = I r) →
      ∃ I', e_L (d + 2) 95 21 [.ref t, .ref t2, .int (e_n (i : Nat))] [] (mk J z) = some (.inl none, mk I' z) ∧ CSt I' t B M n A ∧ (I' t 4 = I t2 4 ∧ I' t 2 = e_n (o1 : Nat)) ∧ (∀ j, j < 8 → I' (t + 7) j = I (t2 + 7) j ∧ I' (t + 8) j = I (t2 + 8) j ∧ I' (t + 9) j = I (t2 + 9) j) ∧ ∀ r, (r < t ∨ t + 210 ≤ r) → I' r = I r := by
    intro k
    induction k with
    | zero =>
      intro i J hi j1 j2 j3 j4 j5 j6
      have : i = n := by omega
      subst this
      refine ⟨_, (C95_21 ht ht2).trans (if_neg ?_), ⟨?_, o1, ho1, ?_, ?_, ?_⟩, ?_, ?_, ?_⟩
      · rw [j2, e_n_ltN (by omega) (by omega)]; omega
      · refine MoC_fr (fun k hk => ?_) j3
        rw [upR_ne (by omega), upR_ne (by omega), upR_ne (by omega), e_u_na (by omega)]
      · rw [upR_ne (by omega), upR_ne (by omega), upR_ne (by omega), e_u_ne (by decide)]; exact j1
      · rw [upR_ne (by omega), upR_ne (by omega), upR_ne (by omega), e_u_ne (by decide)]; exact j2
      · intro q hq
        refine MoC_fr (fun j hj => ?_) (j4 q hq)
        rw [upR_ne (by omega), upR_ne (by omega), upR_ne (by omega), e_u_na (by omega)]
      · refine ⟨?_, ?_⟩
        · rw [upR_ne (by omega), upR_ne (by omega), upR_ne (by omega), e_u_same, j5 t2 (by omega)]
        · rw [upR_ne (by omega), upR_ne (by omega), upR_ne (by omega), e_u_ne (by decide)]; exact j1
      · intro j hj
        rw [lnt7 ht, lnt7 ht2, lnt8 ht, lnt8 ht2, lnt9 ht, lnt9 ht2, Nat.min_self]
        refine ⟨?_, ?_, ?_⟩
        · rw [upR_ne (by omega), upR_ne (by omega), upR_same, if_pos hj, e_u_na (by omega), j5 _ (by omega)]
        · rw [upR_ne (by omega), upR_same, if_pos hj, upR_ne (by omega), e_u_na (by omega), j5 _ (by omega)]
        · rw [upR_same, if_pos hj, upR_ne (by omega), upR_ne (by omega), e_u_na (by omega), j5 _ (by omega)]
      · intro r hr
        rw [upR_ne (by omega), upR_ne (by omega), upR_ne (by omega), e_u_na (by omega), j5 r hr]
    | succ k ih =>
      intro i J hi j1 j2 j3 j4 j5 j6
      have hm1 : (o1 + i) % 40 < 40 := Nat.mod_lt _ (by decide)
      have hm2 : (o + i) % 40 < 40 := Nat.mod_lt _ (by decide)
      have mo1 := isMo_t ht _ hm1
      have mo2 := isMo_t ht2 _ hm2
      have hsrc : MoC J (t2 + 10 + 5 * ((o + i) % 40)) B (A i) := MoC_fr (fun k hk => j5 _ (by omega)) (h4 i (by omega))
      obtain ⟨J2, g1, g2⟩ := c47h (d := d) (I := J) (z := z) mo1 mo2 (by omega) (openM (wa i (by omega)) hsrc)
      have f2 : ∀ r, (r < t + 10 + 5 * ((o1 + i) % 40) ∨ t + 10 + 5 * ((o1 + i) % 40) + 4 < r) → J2 r = J r := g2.2.2.2
      obtain ⟨I', x1, x2⟩ := ih (i + 1) J2 (by omega) (by rw [f2 t (by omega)]; exact j1) (by rw [f2 t (by omega)]; exact j2) (MoC_fr (fun k hk => f2 _ (by omega)) j3) (fun q hq => by
        by_cases hqi : q = i
        · subst hqi; exact Cpd_MoC wb g2 hsrc
        · exact MoC_fr (fun j hj => f2 _ (by omega)) (j4 q (by omega))) (fun r hr => by rw [f2 r (by omega), j5 r hr]) (fun r hr => by rw [f2 r (by omega), j6 r hr])
      refine ⟨I', ?_, x2⟩
      rw [C95_21 ht ht2, j2, if_pos (by rw [e_n_ltN (by omega) (by omega)]; omega), c96h ht ho1 (by omega) j1, e_rF_r, C95_34 ht ht2, c96h ht2 ho (by omega) (by rw [j5 t2 (by omega)]; exact h2), e_rF_r, C95_39 ht ht2, e_ck_mo mo1, g1, e_rV_n, C95_42 ht ht2, e_n_succ]
      exact x1
  obtain ⟨I', x1, x2⟩ := loop n 0 (e_u I1 t 3 (e_n (n : Nat))) (by omega) (by rw [e_u_ne (by decide), f1 t (by omega)]; exact h1) (by rw [e_u_same]) (MoC_fr (fun k hk => e_u_na (by omega)) (Cpd_MoC wb e2 hM)) (fun q hq => by omega) (fun r hr => by rw [e_u_na (by omega), f1 r (by omega)]) (fun r hr => by rw [e_u_na (by omega), f1 r (by omega)])
  refine ⟨I', e_E_ret (d := d + 2) ((C95_0 ht ht2).trans ?_), x2⟩
  rw [e1, e_rV_n, C95_11 ht ht2, f1 t2 (by omega), h3]
  exact x1
theorem SeR_cp {I I' : Nat → Nat → Int32} {B : e_B} {t t2 rs rs2 : Nat} {cs : Int32} (h4 : I' t 4 = I t2 4) (h7 : ∀ j, j < 8 → I' (t + 7) j = I (t2 + 7) j ∧ I' (t + 8) j = I (t2 + 8) j ∧ I' (t + 9) j = I (t2 + 9) j) (hr : ∀ j, j < 24 → I' rs j = I rs2 j) (H : SeR I B t2 rs2 cs) : SeR I' B t rs cs := by
  obtain ⟨n, hn, a1, a2, a3⟩ := H
  refine ⟨n, hn, by rw [h4]; exact a1, a2, fun k hk => ?_⟩
  have := h7 k (by omega)
  rw [this.1, this.2.1, this.2.2, hr (3 * k) (by omega), hr (3 * k + 1) (by omega), hr (3 * k + 2) (by omega)]
  exact a3 k hk
/-- Rel where an image is kept or taken: all of it anew but for what stays -/
theorem Rel_im {I I2 : Nat → Nat → Int32} {z z2 : e_Z} {B : e_B} (H : Rel I z B) (hz : z2.2.1.1 = z.2.1.1)
    (hc : ∀ r, r ≠ 489 → (r < 50 ∨ (489 ≤ r ∧ r ≠ 515 ∧ r ≠ 516 ∧ r ≠ 532 ∧ r ≠ 535 ∧ r ≠ 536 ∧ r ≠ 537)) → r ≠ 1 → I2 r = I r) (h1 : ∀ j, j ≠ 9 → I2 1 j = I 1 j)
    (hf : ∀ j, j ≠ 0 → j ≠ 56 → j ≠ 76 → j ≠ 81 → j ≠ 82 → j ≠ 83 → I2 489 j = I 489 j)
    (hS : StR I2 B 50 515 516 532 (I2 489 56) (I2 489 76)) (h9 : I2 1 9 = I2 489 81) (h260 : I2 260 2 = e_n 0) (hI : I2 489 81 = e_n 0 ∨ (I2 489 81 = e_n 1 ∧ StR I2 B 260 535 536 537 (I2 489 82) (I2 489 83))) : Rel I2 z2 B := by
  obtain ⟨a1, a2, a3, a4, a5, a6, a7, a8, a9, a10, a11⟩ := H
  have hb := bd_cases z
  refine ⟨a1, ?_, RB_fr (fun k _ _ => hf k (by omega) (by omega) (by omega) (by omega) (by omega) (by omega)) (fun q q1 q2 => hc q (by omega) (by omega) (by omega)) a3, by rw [hf 61 (by decide) (by decide) (by decide) (by decide) (by decide) (by decide)]; exact a4, by rw [hf 69 (by decide) (by decide) (by decide) (by decide) (by decide) (by decide)]; exact a5, ?_, ?_, ?_, hS, ⟨h9, h260⟩, hI⟩
  · rw [hz]
    exact BrC_fr (fun k k1 k2 k3 k4 k5 => hc _ (by omega) (by omega) (by omega)) a2
  · rw [h1 1 (by decide), hc 2 (by decide) (by decide) (by decide), hf 19 (by decide) (by decide) (by decide) (by decide) (by decide) (by decide), hc 500 (by decide) (by decide) (by decide)]; exact a6
  · rw [h1 2 (by decide), hf 21 (by decide) (by decide) (by decide) (by decide) (by decide) (by decide)]; exact a7
  · rw [hc 3 (by decide) (by decide) (by decide), hc 501 (by decide) (by decide) (by decide)]; exact a8
/-- three rows of the reference copied -/
theorem cp3 {I I' : Nat → Nat → Int32} {a b : Nat} (h : I' = upR I b (fun j => if j < ln a then I a j else I b j)) (hne : a ≠ b) : (∀ j, j < ln a → I' b j = I a j) ∧ ∀ r, r ≠ b → I' r = I r := by
  subst h
  exact ⟨fun j hj => by rw [upR_same, if_pos hj], fun r hr => upR_ne hr⟩
theorem Fimg {d : Nat} {I : Nat → Nat → Int32} {z : e_Z} {B : e_B} (H : Rel I z B) : ∃ I1, e_E (d + 10) 133 [.ref 1] (mk I z) = some (.inl none, mk I1 z) ∧ ∃ I2, e_E (d + 10) 294 [.ref 489] (mk I1 z) = some (.inl none, mk I2 z) ∧ Rel I2 z B := by
  have hoo : I 260 2 = e_n ((0 : Nat) : Nat) := H.2.2.2.2.2.2.2.2.2.1.2
  have wb := rel_wb H
  have wm := rel_wm H
  obtain ⟨n, hn, h56, hcs, hwa⟩ := rel_cs H
  obtain ⟨I1, e1, e2, e3, e4, e5⟩ := c95h (d := d + 6) (z := z) T2_260 T2_50 (by decide) wb wm hwa hn hcs (o1 := 0) (by decide) hoo
  generalize hJ : e_u I1 1 9 (e_n 1) = J
  have j1 : ∀ r, r ≠ 1 → J r = I1 r := fun r hr => by rw [← hJ, e_u_na hr]
  have j2 : ∀ r, r ≠ 1 → (r < 260 ∨ 470 ≤ r) → J r = I r := fun r h1 h2 => by rw [j1 r h1, e5 r (by omega)]
  refine ⟨J, e_E_ret (d := d + 9) ?_, ?_⟩
  · show e_L (d + 9) 133 0 [.ref 1] [] (mk I z) = _
    rw [C133_0, e1, e_rV_n, C133_11, hJ]
  generalize hG : e_u (e_u (e_u (e_u J 489 0 (e_n 0)) 489 81 (e_n 1)) 489 82 (J 489 56)) 489 83 (J 489 76) = G
  have g1 : ∀ r, r ≠ 489 → G r = J r := fun r hr => by rw [← hG, e_u_na hr, e_u_na hr, e_u_na hr, e_u_na hr]
  have g2 : ∀ j, j ≠ 0 → j ≠ 81 → j ≠ 82 → j ≠ 83 → G 489 j = J 489 j := fun j a b c e => by rw [← hG, e_u_ne e, e_u_ne c, e_u_ne b, e_u_ne a]
  generalize hG1 : upR G 535 (fun j => if j < ln 515 then G 515 j else G 535 j) = G1
  obtain ⟨p1, p2⟩ := cp3 hG1.symm (by decide)
  generalize hG2 : upR G1 536 (fun j => if j < ln 516 then G1 516 j else G1 536 j) = G2
  obtain ⟨q1, q2⟩ := cp3 hG2.symm (by decide)
  generalize hG3 : upR G2 537 (fun j => if j < ln 532 then G2 532 j else G2 537 j) = G3
  obtain ⟨r1, r2⟩ := cp3 hG3.symm (by decide)
  have hall : ∀ r, r ≠ 535 → r ≠ 536 → r ≠ 537 → G3 r = G r := fun r a b c => by rw [r2 r c, q2 r b, p2 r a]
  have h535 : ∀ j, j < 34 → G3 535 j = I 515 j := fun j hj => by rw [r2 535 (by decide), q2 535 (by decide), p1 j hj, g1 515 (by decide), j2 515 (by decide) (by decide)]
  have h536 : ∀ j, j < 1360 → G3 536 j = I 516 j := fun j hj => by rw [r2 536 (by decide), q1 j hj, p2 516 (by decide), g1 516 (by decide), j2 516 (by decide) (by decide)]
  have h537 : ∀ j, j < 24 → G3 537 j = I 532 j := fun j hj => by rw [r1 j hj, q2 532 (by decide), p2 532 (by decide), g1 532 (by decide), j2 532 (by decide) (by decide)]
  have f489 : ∀ j, j ≠ 0 → j ≠ 81 → j ≠ 82 → j ≠ 83 → G3 489 j = I 489 j := fun j a b c e => by rw [hall 489 (by decide) (by decide) (by decide), g2 j a b c e, j2 489 (by decide) (by decide)]
  have J56 : J 489 56 = I 489 56 := by rw [j2 489 (by decide) (by decide)]
  have J76 : J 489 76 = I 489 76 := by rw [j2 489 (by decide) (by decide)]
  have k81 : G3 489 81 = e_n 1 := by rw [hall 489 (by decide) (by decide) (by decide), ← hG, e_u_ne (by decide), e_u_ne (by decide), e_u_same]
  have k82 : G3 489 82 = e_n (n : Nat) := by rw [hall 489 (by decide) (by decide) (by decide), ← hG, e_u_ne (by decide), e_u_same, J56, h56]
  have k83 : G3 489 83 = I 489 76 := by rw [hall 489 (by decide) (by decide) (by decide), ← hG, e_u_same, J76]
  have lo : ∀ r, r < 489 → G3 r = J r := fun r hr => by rw [hall r (by omega) (by omega) (by omega), g1 r (by omega)]
  refine ⟨G3, e_E_ret (d := d + 9) ?_, ?_⟩
  · show e_L (d + 9) 294 0 [.ref 489] [] (mk J z) = _
    rw [C294_0, hG, c180h (r := 515) (r2 := 535) rfl rfl (by decide) (by decide), e_rV_n, C294_38, hG1, c180h (r := 516) (r2 := 536) rfl rfl (by decide) (by decide), e_rV_n, C294_50, hG2, c180h (r := 532) (r2 := 537) rfl rfl (by decide) (by decide), e_rV_n, C294_62, hG3]
  · refine Rel_im H rfl ?_ ?_ ?_ ?_ ?_ ?_ (Or.inr ⟨k81, ?_⟩)
    · intro r a b c
      by_cases h489 : r < 489
      · rw [lo r h489, j2 r c (by omega)]
      · rw [hall r (by omega) (by omega) (by omega), g1 r a, j2 r c (by omega)]
    · intro j hj
      rw [lo 1 (by decide), ← hJ, e_u_ne hj, e5 1 (by decide)]
    · intro j a b c e f g
      exact f489 j a e f g
    · rw [f489 56 (by decide) (by decide) (by decide) (by decide), f489 76 (by decide) (by decide) (by decide) (by decide)]
      have o515 : G3 515 = I 515 := by rw [hall 515 (by decide) (by decide) (by decide), g1 515 (by decide), j2 515 (by decide) (by decide)]
      have o516 : G3 516 = I 516 := by rw [hall 516 (by decide) (by decide) (by decide), g1 516 (by decide), j2 516 (by decide) (by decide)]
      have o532 : G3 532 = I 532 := by rw [hall 532 (by decide) (by decide) (by decide), g1 532 (by decide), j2 532 (by decide) (by decide)]
      exact StR_fr (fun r a b => by rw [lo r (by omega), j2 r (by omega) (by omega)]) o515 o516 o532 (rel_st H)
    · rw [k81, lo 1 (by decide), ← hJ, e_u_same]
    · rw [lo 260 (by decide), j1 260 (by decide)]; exact e3.2
    · rw [k82, k83]
      have hh : ∀ r, 260 ≤ r → r < 470 → G3 r = I1 r := fun r a b => by rw [lo r (by omega), j1 r (by omega)]
      refine StR_mk wb ?_ hn wm hwa h535 rfl (fun k hk j hj => h536 _ (by omega)) ?_
      · obtain ⟨a1, o2, ho2, a2, a3, a4⟩ := e2
        refine ⟨MoC_fr (fun k hk => hh _ (by omega) (by omega)) a1, o2, ho2, by rw [hh 260 (by decide) (by decide)]; exact a2, by rw [hh 260 (by decide) (by decide)]; exact a3, fun k hk => MoC_fr (fun j hj => hh _ (by omega) ?_) (a4 k hk)⟩
        have := Nat.mod_lt (o2 + k) (show 0 < 40 by decide)
        omega
      · exact SeR_cp (t2 := 50) (rs2 := 532) (by rw [hh 260 (by decide) (by decide)]; exact e3.1) (fun j hj => by rw [hh 267 (by decide) (by decide), hh 268 (by decide) (by decide), hh 269 (by decide) (by decide)]; exact e4 j hj) h537 (rel_se H)
theorem F134 {d : Nat} {c1 : Int32} {I : Nat → Nat → Int32} {z : e_Z} {B : e_B} (H : Rel I z B) : Face d c1 I z 134 295 [] := by
  have wb := rel_wb H
  have h9 : I 1 9 = I 489 81 := H.2.2.2.2.2.2.2.2.2.1.1
  have him := H.2.2.2.2.2.2.2.2.2.2
  by_cases h0 : I 489 81 = 0
  · refine face_rd H (r := .inl (e_n 0)) (I1 := I) (zs_rf z) rfl (e_E_ret (d := d + 9) ?_) (fun _ _ => rfl) ?_
    · show e_L (d + 9) 134 0 [.ref 1] [] (mk I z) = _
      rw [C134_0, h9, if_pos h0]
    · intro J z2 HJ hq
      refine ⟨_, e_n 0, e_E_ret (d := d + 9) ?_, RfE_0 (v := e_n 0), e_u_same, rfl⟩
      show e_L (d + 9) 295 0 [.ref 489] [] (mk J z2) = _
      rw [C295_0, hq 489 (by decide), if_pos h0]
  · obtain ⟨h81, hst⟩ := him.resolve_left h0
    obtain ⟨n, hn, h82, hcs, hwa⟩ := StR_cs hst
    have wm := hst.2.1
    obtain ⟨o1, ho1, h12⟩ : ∃ o1 : Nat, o1 < 40 ∧ I 50 2 = e_n (o1 : Nat) := by
      obtain ⟨-, -, ⟨o, n, a1, -, a2, -⟩, -⟩ := rel_st H
      exact ⟨o, a1, a2⟩
    obtain ⟨I1, e1, e2, e3, e4, e5⟩ := c95h (d := d + 6) (z := z) T2_50 T2_260 (by decide) wb wm hwa hn hcs ho1 h12
    refine ⟨.inl (e_n 1), I1, z, zs_rf z, e_E_ret (d := d + 9) ?_, fun z2 hz => ?_⟩
    · show e_L (d + 9) 134 0 [.ref 1] [] (mk I z) = _
      rw [C134_0, h9, if_neg h0, e1, e_rV_n, C134_20]
    · have j2 : ∀ r, (r < 50 ∨ 260 ≤ r) → I1 r = I r := fun r h => e5 r (by omega)
      generalize hG : e_u (e_u (e_u I1 489 0 (e_n 0)) 489 56 (I1 489 82)) 489 76 (I1 489 83) = G
      have g1 : ∀ r, r ≠ 489 → G r = I1 r := fun r hr => by rw [← hG, e_u_na hr, e_u_na hr, e_u_na hr]
      have g2 : ∀ j, j ≠ 0 → j ≠ 56 → j ≠ 76 → G 489 j = I1 489 j := fun j a b c => by rw [← hG, e_u_ne c, e_u_ne b, e_u_ne a]
      generalize hG1 : upR G 515 (fun j => if j < ln 535 then G 535 j else G 515 j) = G1
      obtain ⟨p1, p2⟩ := cp3 hG1.symm (by decide)
      generalize hG2 : upR G1 516 (fun j => if j < ln 536 then G1 536 j else G1 516 j) = G2
      obtain ⟨q1, q2⟩ := cp3 hG2.symm (by decide)
      generalize hG3 : upR G2 532 (fun j => if j < ln 537 then G2 537 j else G2 532 j) = G3
      obtain ⟨r1, r2⟩ := cp3 hG3.symm (by decide)
      have hall : ∀ r, r ≠ 515 → r ≠ 516 → r ≠ 532 → G3 r = G r := fun r a b c => by rw [r2 r c, q2 r b, p2 r a]
      have h515 : ∀ j, j < 34 → G3 515 j = I 535 j := fun j hj => by rw [r2 515 (by decide), q2 515 (by decide), p1 j hj, g1 535 (by decide), j2 535 (by decide)]
      have h516 : ∀ j, j < 1360 → G3 516 j = I 536 j := fun j hj => by rw [r2 516 (by decide), q1 j hj, p2 536 (by decide), g1 536 (by decide), j2 536 (by decide)]
      have h532 : ∀ j, j < 24 → G3 532 j = I 537 j := fun j hj => by rw [r1 j hj, q2 537 (by decide), p2 537 (by decide), g1 537 (by decide), j2 537 (by decide)]
      have f489 : ∀ j, j ≠ 0 → j ≠ 56 → j ≠ 76 → G3 489 j = I 489 j := fun j a b c => by rw [hall 489 (by decide) (by decide) (by decide), g2 j a b c, j2 489 (by decide)]
      have k56 : G3 489 56 = e_n (n : Nat) := by rw [hall 489 (by decide) (by decide) (by decide), ← hG, e_u_ne (by decide), e_u_same, j2 489 (by decide), h82]
      have k76 : G3 489 76 = I 489 83 := by rw [hall 489 (by decide) (by decide) (by decide), ← hG, e_u_same, j2 489 (by decide)]
      have lo : ∀ r, r < 489 → G3 r = I1 r := fun r hr => by rw [hall r (by omega) (by omega) (by omega), g1 r (by omega)]
      refine ⟨G3, B, e_n 1, e_E_ret (d := d + 9) ?_, ?_, ?_, rfl⟩
      · show e_L (d + 9) 295 0 [.ref 489] [] (mk I1 z2) = _
        rw [C295_0, show I1 489 81 = I 489 81 from by rw [j2 489 (by decide)], if_neg h0, hG, c180h (r := 535) (r2 := 515) rfl rfl (by decide) (by decide), e_rV_n, C295_42, hG1, c180h (r := 536) (r2 := 516) rfl rfl (by decide) (by decide), e_rV_n, C295_54, hG2, c180h (r := 537) (r2 := 532) rfl rfl (by decide) (by decide), e_rV_n, C295_66, hG3]
      · refine Rel_im H (by rw [hz]) ?_ ?_ ?_ ?_ ?_ ?_ (Or.inr ⟨by rw [f489 81 (by decide) (by decide) (by decide)]; exact h81, ?_⟩)
        · intro r a b c
          by_cases h489 : r < 489
          · rw [lo r h489, j2 r (by omega)]
          · rw [hall r (by omega) (by omega) (by omega), g1 r a, j2 r (by omega)]
        · intro j hj
          rw [lo 1 (by decide), j2 1 (by decide)]
        · intro j a b c e f g
          exact f489 j a b c
        · rw [k56, k76]
          refine StR_mk wb ?_ hn wm hwa h515 rfl (fun k hk j hj => h516 _ (by omega)) ?_
          · obtain ⟨a1, o2, ho2, a2, a3, a4⟩ := e2
            refine ⟨MoC_fr (fun k hk => lo _ (by omega)) a1, o2, ho2, by rw [lo 50 (by decide)]; exact a2, by rw [lo 50 (by decide)]; exact a3, fun k hk => MoC_fr (fun j hj => lo _ ?_) (a4 k hk)⟩
            have := Nat.mod_lt (o2 + k) (show 0 < 40 by decide)
            omega
          · exact SeR_cp (t2 := 260) (rs2 := 537) (by rw [lo 50 (by decide)]; exact e3.1) (fun j hj => by rw [lo 57 (by decide), lo 58 (by decide), lo 59 (by decide)]; exact e4 j hj) h532 hst.2.2.2
        · rw [lo 1 (by decide), j2 1 (by decide), f489 81 (by decide) (by decide) (by decide)]; exact h9
        · rw [lo 260 (by decide), j2 260 (by decide)]; exact H.2.2.2.2.2.2.2.2.2.1.2
        · rw [f489 82 (by decide) (by decide) (by decide), f489 83 (by decide) (by decide) (by decide)]
          have o535 : G3 535 = I 535 := by rw [hall 535 (by decide) (by decide) (by decide), g1 535 (by decide), j2 535 (by decide)]
          have o536 : G3 536 = I 536 := by rw [hall 536 (by decide) (by decide) (by decide), g1 536 (by decide), j2 536 (by decide)]
          have o537 : G3 537 = I 537 := by rw [hall 537 (by decide) (by decide) (by decide), g1 537 (by decide), j2 537 (by decide)]
          exact StR_fr (fun r a b => by rw [lo r (by omega), j2 r (by omega)]) o535 o536 o537 hst
      · rw [hall 489 (by decide) (by decide) (by decide), ← hG, e_u_ne (by decide), e_u_ne (by decide), e_u_same]
end S86
