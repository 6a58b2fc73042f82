/-! a text, read by both -/
section S99zzj
def Be : e_B := ((0, 0, 0, 0, 0, 0), (fun _ _ => e_n 0), [])
theorem WB_e : WB Be := ⟨Nat.zero_le _, Nat.zero_le _, Nat.zero_le _, Nat.zero_le _, Nat.zero_le _, Nat.zero_le _, fun _ h => absurd h (Nat.not_lt_zero _), fun _ h => absurd h (Nat.not_lt_zero _), fun _ h => absurd h (Nat.not_lt_zero _), fun _ h => absurd h (Nat.not_lt_zero _), fun _ h => absurd h (Nat.not_lt_zero _), Nat.zero_le _, Or.inl rfl, fun _ h => absurd h (Nat.not_lt_zero _), fun _ h => absurd h (Nat.not_lt_zero _), fun _ _ h => absurd h (Nat.not_lt_zero _), fun _ _ h => absurd h (Nat.not_lt_zero _)⟩
theorem TK_fr {J J' : Nat → Nat → Int32} {b : Nat → Int32} {n p : Nat} (h : TK J b n p) (hf : ∀ r, 45 ≤ r → r < 50 → J' r = J r) : TK J' b n p := by
  obtain ⟨T, c, h1, h2, h3, h4, h5, h6, h7, h8, h9, h10⟩ := h
  refine ⟨T, c, h1, h2, h3, h4, ?_, ?_, ?_, ?_, ?_, ?_⟩
  · rw [hf 45 (by decide) (by decide)]; exact h5
  · intro u hu
    rw [hf 47 (by decide) (by decide), hf 48 (by decide) (by decide), hf 49 (by decide) (by decide)]
    exact h6 u hu
  · rw [hf 45 (by decide) (by decide)]; exact h7
  · rw [hf 45 (by decide) (by decide)]; exact h8
  · rw [hf 45 (by decide) (by decide)]; exact h9
  · rw [hf 45 (by decide) (by decide)]; exact h10
theorem clr_f {b0 : Nat} {I : Nat → Nat → Int32} (hb : b0 = 4 ∨ b0 = 24) : ∃ K, (e_u (e_u (e_u (e_u (e_u (e_u (e_u (e_u (e_u I (b0 + 1) 0 (e_n 0)) (b0 + 1) 1 (e_n 0)) (b0 + 8) 1 (e_n 0)) b0 2 (e_n 0)) b0 6 (e_n 0)) b0 10 (e_n 0)) b0 11 (e_n 0)) 44 2 (e_n 0)) 44 3 (e_n (-1))) = K ∧ BrC K b0 Be ∧ K 44 2 = e_n 0 ∧ K 44 3 = e_n (-1) ∧ ∀ r, r ≠ 44 → ¬ (b0 ≤ r ∧ r < b0 + 20) → K r = I r := by
  refine ⟨_, rfl, ⟨?_, ?_, ?_, ?_, ?_, ?_, fun _ h => absurd h (Nat.not_lt_zero _), fun _ h => absurd h (Nat.not_lt_zero _), fun _ h => absurd h (Nat.not_lt_zero _), fun _ h => absurd h (Nat.not_lt_zero _), fun _ h => absurd h (Nat.not_lt_zero _), ?_, fun _ h => absurd h (Nat.not_lt_zero _)⟩, ?_, ?_, fun r h1 h2 => ?_⟩
  · rw [e_u_na (by omega), e_u_na (by omega), e_u_ne (by decide), e_u_ne (by decide), e_u_ne (by decide), e_u_same]; rfl
  · rw [e_u_na (by omega), e_u_na (by omega), e_u_na (by omega), e_u_na (by omega), e_u_na (by omega), e_u_na (by omega), e_u_na (by omega), e_u_ne (by decide), e_u_same]; rfl
  · rw [e_u_na (by omega), e_u_na (by omega), e_u_na (by omega), e_u_na (by omega), e_u_na (by omega), e_u_na (by omega), e_u_na (by omega), e_u_same]; rfl
  · rw [e_u_na (by omega), e_u_na (by omega), e_u_ne (by decide), e_u_ne (by decide), e_u_same]; rfl
  · rw [e_u_na (by omega), e_u_na (by omega), e_u_ne (by decide), e_u_same]; rfl
  · rw [e_u_na (by omega), e_u_na (by omega), e_u_same]; rfl
  · rw [e_u_na (by omega), e_u_na (by omega), e_u_na (by omega), e_u_na (by omega), e_u_na (by omega), e_u_na (by omega), e_u_same]; rfl
  · rw [e_u_ne (by decide), e_u_same]
  · rw [e_u_same]
  · rw [e_u_na h1, e_u_na h1, e_u_na (by omega), e_u_na (by omega), e_u_na (by omega), e_u_na (by omega), e_u_na (by omega), e_u_na (by omega), e_u_na (by omega)]
theorem c60h {d m : Nat} {s : Bool} {b : Nat → Int32} {I : Nat → Nat → Int32} {z : e_Z} (hm : m ≤ 700) (hb : ∀ k, k < m → I 2 k = b k) :
    ∃ J r, e_E (d + 55) 60 [.ref 44, .ref 2, .int (e_n (m : Nat)), .ref (bd s)] (mk I z) = some (.inl (some (.int r)), mk J (zR (zT z) s)) ∧ (∀ q, (q < 44 ∨ 49 < q) → ¬ (bd s ≤ q ∧ q < bd s + 20) → J q = I q) ∧ LOo (zR (zT z) s) J b m (Ybrd b m 701 Be (skB b m 0)) ∧ r = J 44 2 := by
  have hbb := B2_bd s
  have hbc : bd s = 4 ∨ bd s = 24 := hbb
  obtain ⟨I1, a1, a2, a3⟩ := c102h (d := d + 46) (z := z) hm hb
  obtain ⟨K, k1, k2, k3, k4, k5⟩ := clr_f (b0 := bd s) (I := I1) hbc
  have hTK : TK K b m (skB b m 0) := TK_fr a2 (fun r h1 h2 => k5 r (by omega) (by omega))
  have hp : skB b m 0 ≤ m := (skB_n (Nat.zero_le m)).2
  obtain ⟨J, r, b1, b2, b3, b4⟩ := c60l (d := d) (x2 := e_n (m : Nat)) (z := zR (zT z) s) hm hbb 701 0 K (skB b m 0) Be (by decide) hp WB_e ⟨hTK, k3, k4⟩ k2
  refine ⟨J, r, e_E_ret (d := d + 54) ?_, ?_, b3, b4⟩
  · show e_L (d + 42 + 12) 60 0 [.ref 44, .ref 2, .int (e_n (m : Nat)), .ref (bd s), .null] [] (mk I z) = _
    have a1' : e_E (d + 42 + 12) 102 [.ref 45, .ref 2, .int (e_n (m : Nat))] (mk I z) = some (.inl none, mk I1 (zT z)) := a1
    have c1' : e_E (d + 42 + 12) 1 [.ref (bd (zR (zT z) s).2.1.2.1)] (mk I1 (zR (zT z) s)) = some (.inl none, mk (e_u (e_u (e_u (e_u (e_u (e_u (e_u I1 (bd s + 1) 0 (e_n 0)) (bd s + 1) 1 (e_n 0)) (bd s + 8) 1 (e_n 0)) (bd s) 2 (e_n 0)) (bd s) 6 (e_n 0)) (bd s) 10 (e_n 0)) (bd s) 11 (e_n 0)) (zR (zT z) s)) := c1 (d := d + 42 + 10) hbb
    rw [C60_0 hbb, a1', e_rV_n, C60_9 hbb, mk_zR, C60_14 hbb, c1', e_rV_n, C60_21 hbb, k1]
    exact b1
  · intro q h1 h2
    have hq : ¬ (bd (zR (zT z) s).2.1.2.1 ≤ q ∧ q < bd (zR (zT z) s).2.1.2.1 + 20) := h2
    rw [b2 q (by omega) (by omega) hq, k5 q (by omega) h2, a3 q (by omega) (by omega) (by omega) (by omega)]
/-- the reference begins -/
theorem c216p {d m n0 : Nat} {b : Nat → Int32} {K : Nat → Nat → Int32} {z : e_Z} (hm : m ≤ 700) (hmn : m ≤ n0) (hn0 : n0 ≤ 700) (h19 : K 489 19 = e_n (n0 : Nat)) (hb : ∀ k, k < m → K 500 k = b k) :
    ∃ J z3, e_L (d + 7) 216 0 [.ref 489, .int (e_n (m : Nat)), .null] [] (mk K z) = e_L (d + 7) 216 101 [.ref 489, .int (e_n (m : Nat)), .null] [] (mk J z3) ∧ (∀ r, r ≠ 489 → (r < 502 ∨ 514 < r) → J r = K r) ∧ (∀ k, ((k < 20 ∧ k ≠ 0 ∧ k ≠ 19) ∨ 40 < k) → J 489 k = K 489 k) ∧ J 489 0 = e_n 0 ∧ J 489 19 = e_n 0 ∧ LF z z3 ∧ RLo z3 J b m (Ybrd b m 701 Be (skB b m 0)) ∧ ∀ q B', Ybrd b m 701 Be (skB b m 0) = .inl (q, B') → tkK b m q = 0 := by
  have hcond : ¬ (e_n (m : Nat) < 0) ∧ ¬ (K 489 19 < e_n (m : Nat)) := by
    rw [h19, show (0 : Int32) = e_n ((0 : Nat) : Nat) from rfl, e_n_ltN (by omega) (by omega), e_n_ltN (by omega) (by omega)]
    omega
  generalize hC : (e_u (e_u (e_u (e_u (e_u (e_u (e_u (e_u (e_u (e_u (e_u (e_u (e_u (e_u K 489 0 (e_n 0)) 489 19 (e_n 0)) 489 21 (e_n (-1))) 489 20 (e_n 0)) 489 23 (e_n (m : Nat))) 489 24 (e_n 0)) 489 31 (e_n 0)) 489 32 (e_n 0)) 489 33 (e_n 0)) 489 34 (e_n 0)) 489 35 (e_n 0)) 489 36 (e_n 0)) 489 37 (e_n (-1))) 489 38 (e_n 0)) = C
  have cr : ∀ r, r ≠ 489 → C r = K r := fun r hr => by
    rw [← hC]
    simp only [e_u_na hr]
  have ck : ∀ k, ((k < 20 ∧ k ≠ 0 ∧ k ≠ 19) ∨ 40 < k) → C 489 k = K 489 k := fun k hk => by
    rw [← hC, e_u_ne (by omega), e_u_ne (by omega), e_u_ne (by omega), e_u_ne (by omega), e_u_ne (by omega), e_u_ne (by omega), e_u_ne (by omega), e_u_ne (by omega), e_u_ne (by omega), e_u_ne (by omega), e_u_ne (by omega), e_u_ne (by omega), e_u_ne (by omega), e_u_ne (by omega)]
  have v38 : C 489 38 = e_n 0 := by rw [← hC, e_u_same]
  have v37 : C 489 37 = e_n (-1) := by rw [← hC]; simp (disch := decide) only [e_u_ne, e_u_same]
  have v36 : C 489 36 = e_n 0 := by rw [← hC]; simp (disch := decide) only [e_u_ne, e_u_same]
  have v35 : C 489 35 = e_n 0 := by rw [← hC]; simp (disch := decide) only [e_u_ne, e_u_same]
  have v34 : C 489 34 = e_n 0 := by rw [← hC]; simp (disch := decide) only [e_u_ne, e_u_same]
  have v33 : C 489 33 = e_n 0 := by rw [← hC]; simp (disch := decide) only [e_u_ne, e_u_same]
  have v32 : C 489 32 = e_n 0 := by rw [← hC]; simp (disch := decide) only [e_u_ne, e_u_same]
  have v31 : C 489 31 = e_n 0 := by rw [← hC]; simp (disch := decide) only [e_u_ne, e_u_same]
  have v24 : C 489 24 = e_n 0 := by rw [← hC]; simp (disch := decide) only [e_u_ne, e_u_same]
  have v23 : C 489 23 = e_n (m : Nat) := by rw [← hC]; simp (disch := decide) only [e_u_ne, e_u_same]
  have v20 : C 489 20 = e_n 0 := by rw [← hC]; simp (disch := decide) only [e_u_ne, e_u_same]
  have v21 : C 489 21 = e_n (-1) := by rw [← hC]; simp (disch := decide) only [e_u_ne, e_u_same]
  have v19 : C 489 19 = e_n 0 := by rw [← hC]; simp (disch := decide) only [e_u_ne, e_u_same]
  have v0 : C 489 0 = e_n 0 := by rw [← hC]; simp (disch := decide) only [e_u_ne, e_u_same]
  have hbC : ∀ k, k < m → C 500 k = b k := fun k hk => by rw [cr 500 (by decide)]; exact hb k hk
  obtain ⟨J1, z1, a1, a2, a3, a4, a5, a6, a7, a8, a9, a10⟩ := c187h (d := d + 5) (i := 0) (z := z) hm (Nat.zero_le m) v23 v24 hbC
  have hp : skB b m 0 ≤ m := (skB_n (Nat.zero_le m)).2
  have hRG : RG z1 J1 b m (skB b m 0) := ⟨⟨hp, by rw [a2.2 23 (by omega)]; exact v23, fun k hk => by rw [a2.1 500 (by decide)]; exact hbC k hk, a4, a5, a6, a7, a8, a9, a10, by rw [a2.2 21 (by omega)]; exact v21⟩, by rw [a2.2 20 (by omega)]; exact v20⟩
  have n0' : ∀ {k : Nat}, ¬ k < 0 := fun {k} => Nat.not_lt_zero k
  have hRN : RN J1 Be := by
    refine ⟨(a2.2 31 (by omega)).trans v31, (a2.2 32 (by omega)).trans v32, (a2.2 33 (by omega)).trans v33, (a2.2 34 (by omega)).trans v34, (a2.2 35 (by omega)).trans v35, (a2.2 36 (by omega)).trans v36, ?_, fun _ => (a2.2 38 (by omega)).trans v38, fun a ha => absurd ha n0', fun a ha => absurd ha n0', fun a ha => absurd ha n0', fun a ha => absurd ha n0', fun a ha => absurd ha n0', fun hn => absurd rfl hn⟩
    rw [if_pos (show bO Be = [] from rfl)]
    exact (a2.2 37 (by omega)).trans v37
  obtain ⟨J2, z2, b1, b2, b3, b4, b5⟩ := c216l (d := d) (x1 := e_n (m : Nat)) hm 701 (skB b m 0) Be J1 z1 (by omega) WB_e hRG hRN
  refine ⟨J2, z2, ?_, fun r h1 h2 => ?_, fun k hk => ?_, ?_, ?_, LF_tr a3 b3, b4, b5⟩
  · have hr : e_E (d + 7) 177 [.ref 489, .int (tf (¬ (e_n (m : Nat) < 0) ∧ ¬ (K 489 19 < e_n (m : Nat)))), .int (e_n 1)] (mk (e_u K 489 0 (e_n 0)) z) = some (.inl (some (.int (e_n 1))), mk (e_u K 489 0 (e_n 0)) z) := right_y (d := d + 6) K0 hcond
    rw [C216_0, hr, e_rI_i, C216_27, if_neg (by decide), hC, a1, e_rV_n]
    exact b1
  · rw [b2.1 r h1 h2, a2.1 r h1]; exact cr r h1
  · rw [b2.2 k (by omega), a2.2 k (by omega)]; exact ck k hk
  · rw [b2.2 0 (by omega), a2.2 0 (by omega)]; exact v0
  · rw [b2.2 19 (by omega), a2.2 19 (by omega)]; exact v19
-- the class takes the board
theorem fr_S (p : e_P) : e_u (e_u (fr p) 1 5 (bd p.1)) 1 4 (bd (!p.1)) = fr (!p.1, p.2) := by
  funext a j
  by_cases ha : a = 1
  · subst ha
    by_cases h4 : j = 4
    · subst h4
      rw [show e_u (e_u (fr p) 1 5 (bd p.1)) 1 4 (bd (!p.1)) 1 4 = bd (!p.1) from by unfold e_u; rw [if_pos rfl]; exact if_pos rfl]
      rfl
    · by_cases h5 : j = 5
      · subst h5
        rw [show e_u (e_u (fr p) 1 5 (bd p.1)) 1 4 (bd (!p.1)) 1 5 = bd p.1 from by unfold e_u; rw [if_pos rfl, if_neg h4, if_pos rfl]; exact if_pos rfl]
        show bd p.1 = bd (!(!p.1))
        rw [Bool.not_not]
      · rw [show e_u (e_u (fr p) 1 5 (bd p.1)) 1 4 (bd (!p.1)) 1 j = fr p 1 j from by unfold e_u; rw [if_pos rfl, if_neg h4, if_pos rfl]; exact if_neg h5]
        show (bif Nat.beq j 0 then _ else bif Nat.beq j 3 then _ else bif Nat.beq j 4 then _ else bif Nat.beq j 5 then _ else _) = (bif Nat.beq j 0 then _ else bif Nat.beq j 3 then _ else bif Nat.beq j 4 then _ else bif Nat.beq j 5 then _ else _)
        rw [beq_ne h4, beq_ne h5]
        rfl
  · rw [show e_u (e_u (fr p) 1 5 (bd p.1)) 1 4 (bd (!p.1)) a j = fr p a j from by unfold e_u; rw [if_neg ha, if_neg ha]]
    unfold fr
    repeat' (first | rfl | (apply condcong <;> (intro h; first | (replace h := blt_t h) | (replace h := blt_f h) | skip)))
    all_goals omega
/-- the other board told -/
def zS (z : e_Z) : e_Z := (z.1, (!z.2.1.1, z.2.1.2), z.2.2)
theorem mk_zS {I : Nat → Nat → Int32} {z : e_Z} : ms I z.1 (e_u (e_u (fr z.2.1) 1 5 (bd z.2.1.1)) 1 4 (bd (!z.2.1.1))) z.2.2.1 z.2.2.2 = mk I (zS z) := by
  rw [fr_S]; rfl
theorem b118_79 {d x b0 : Nat} {x1 x2 : Int32} {I : Nat → Nat → Int32} {J : Nat → Nat → Int64} {F : Nat → Nat → Nat} {c : Nat × Nat} {X : Nat × (Nat → Int32)} : e_L d 118 79 [.ref 1, .int x1, .int x2, .ref b0] [] (ms I J F c X) = e_L d 118 84 [.ref 1, .int x1, .int x2, .ref b0] [] (ms I J (e_u F 1 4 b0) c X) := e_L_to hd118 3 (by generalize e_L d 118 = K; generalize e_E d = E; rfl)
theorem c46f {d b : Nat} {I : Nat → Nat → Int32} {z : e_Z} (hb : B2 b) : ∃ G, e_E (d + 2) 46 [.ref 51, .ref b] (mk I z) = some (.inl none, mk G z) ∧ (G 51 0 = e_n 0 ∧ G 51 1 = e_n 0 ∧ G 51 2 = e_n 0 ∧ G 51 3 = e_n 0 ∧ G 51 4 = e_n 1) ∧ (∀ j, j < 9 → G 52 j = e_n (-1) ∧ G 53 j = e_n (-1) ∧ G 54 j = I (b + 16) j) ∧ (∀ j, j < 3 → G 55 j = I (b + 12) j) ∧ ∀ q, (q < 51 ∨ 55 < q) → G q = I q := by
  have hbc : b = 4 ∨ b = 24 := hb
  have l52 : ln (51 + 1) = 9 := rfl
  have l53 : ln (51 + 2) = 9 := rfl
  have l54 : ln (51 + 3) = 9 := rfl
  have l55 : ln (51 + 4) = 3 := rfl
  have l16 := lnb16 hb
  have l12 := lnb12 hb
  refine ⟨_, c46 (d := d) hb M3_51, ⟨?_, ?_, ?_, ?_, ?_⟩, fun j hj => ⟨?_, ?_, ?_⟩, fun j hj => ?_, fun q hq => ?_⟩
  · rw [upR_ne (by decide), upR_ne (by decide), upR_ne (by decide), upR_ne (by decide)]; simp (disch := decide) only [e_u_ne, e_u_same]
  · rw [upR_ne (by decide), upR_ne (by decide), upR_ne (by decide), upR_ne (by decide)]; simp (disch := decide) only [e_u_ne, e_u_same]
  · rw [upR_ne (by decide), upR_ne (by decide), upR_ne (by decide), upR_ne (by decide)]; simp (disch := decide) only [e_u_ne, e_u_same]
  · rw [upR_ne (by decide), upR_ne (by decide), upR_ne (by decide), upR_ne (by decide)]; simp (disch := decide) only [e_u_ne, e_u_same]
  · rw [upR_ne (by decide), upR_ne (by decide), upR_ne (by decide), upR_ne (by decide)]; simp (disch := decide) only [e_u_ne, e_u_same]
  · rw [upR_ne (by decide), upR_ne (by decide), upR_ne (by decide), show (52 : Nat) = 51 + 1 from rfl, upR_same, l52, if_pos hj]
  · rw [upR_ne (by decide), upR_ne (by decide), show (53 : Nat) = 51 + 2 from rfl, upR_same, l53, if_pos hj]
  · rw [upR_ne (by decide), show (54 : Nat) = 51 + 3 from rfl, upR_same, l16, l54, if_pos (by omega), upR_ne (by omega), upR_ne (by omega), e_u_na (by omega), e_u_na (by omega), e_u_na (by omega), e_u_na (by omega), e_u_na (by omega)]
  · rw [show (55 : Nat) = 51 + 4 from rfl, upR_same, l12, l55, if_pos (by omega), upR_ne (by omega), upR_ne (by omega), upR_ne (by omega), e_u_na (by omega), e_u_na (by omega), e_u_na (by omega), e_u_na (by omega), e_u_na (by omega)]
  · rw [upR_ne (by omega), upR_ne (by omega), upR_ne (by omega), upR_ne (by omega), e_u_na (by omega), e_u_na (by omega), e_u_na (by omega), e_u_na (by omega), e_u_na (by omega)]
theorem c94f {d b : Nat} {I : Nat → Nat → Int32} {z : e_Z} (hb : B2 b) : ∃ G, e_E (d + 3) 94 [.ref 50, .ref b] (mk I z) = some (.inl none, mk G z) ∧ (G 51 0 = e_n 0 ∧ G 51 1 = e_n 0 ∧ G 51 2 = e_n 0 ∧ G 51 3 = e_n 0 ∧ G 51 4 = e_n 1) ∧ (∀ j, j < 9 → G 52 j = e_n (-1) ∧ G 53 j = e_n (-1) ∧ G 54 j = I (b + 16) j) ∧ (∀ j, j < 3 → G 55 j = I (b + 12) j) ∧ (G 50 3 = e_n 0 ∧ G 50 4 = e_n 0 ∧ G 50 2 = I 50 2) ∧ ∀ q, (q < 50 ∨ 55 < q) → G q = I q := by
  obtain ⟨G, e1, e2, e3, e4, e5⟩ := c46f (d := d) (I := I) (z := z) hb
  have kr : ∀ q, q ≠ 50 → (e_u (e_u G 50 3 (e_n 0)) 50 4 (e_n 0)) q = G q := fun q hq => by rw [e_u_na hq, e_u_na hq]
  refine ⟨e_u (e_u G 50 3 (e_n 0)) 50 4 (e_n 0), e_E_ret (d := d + 2) ?_, ?_, ?_, ?_, ⟨?_, ?_, ?_⟩, fun q hq => ?_⟩
  · show e_L (d + 2) 94 0 [.ref 50, .ref b] [] (mk I z) = _
    have e1' : e_E (d + 2) 46 [.ref (50 + 1), .ref b] (mk I z) = some (.inl none, mk G z) := e1
    rw [C94_0 hb T2_50, e1', e_rV_n, C94_8 hb T2_50]
  · rw [kr 51 (by decide)]; exact e2
  · rw [kr 52 (by decide), kr 53 (by decide), kr 54 (by decide)]; exact e3
  · rw [kr 55 (by decide)]; exact e4
  · rw [e_u_ne (by decide), e_u_same]
  · rw [e_u_same]
  · rw [e_u_ne (by decide), e_u_ne (by decide), e5 50 (by omega)]
  · rw [kr q (by omega)]; exact e5 q (by omega)
theorem copyF {d r r2 : Nat} {K : Nat → Nat → Int32} {z : e_Z} (h1 : kd r = 20) (h2 : kd r2 = 20) (hl : ln r ≤ ln r2) (hne : r ≠ r2) : ∃ K', e_E (d + 1) 180 [.ref 489, .ref r, .ref r2] (mk K z) = some (.inl none, mk K' z) ∧ (∀ j, j < ln r → K' r2 j = K r j) ∧ ∀ q, q ≠ r2 → K' q = K q :=
  ⟨_, c180h h1 h2 hl hne, fun j hj => by rw [upR_same, if_pos hj], fun q hq => upR_ne hq⟩
end S99zzj
