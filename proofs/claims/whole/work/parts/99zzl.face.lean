/-! board, face to face -/
section S99zzl
/-- what Rel asks of all that a text doesn't touch -/
theorem Rel_keep {I F : Nat → Nat → Int32} {z zf : e_Z} {B : e_B} (H : Rel I z B) (hz : zf.2.1.1 = z.2.1.1) (hr : ∀ r, ¬ (bd (!z.2.1.1) ≤ r ∧ r < bd (!z.2.1.1) + 20) → r ≠ 1 → r ≠ 3 → ¬ (44 ≤ r ∧ r < 50) → r ≠ 489 → r ≠ 501 → ¬ (502 ≤ r ∧ r ≤ 514) → F r = I r)
    (h9 : ∀ k, (1 ≤ k ∧ k < 19) ∨ 40 < k → F 489 k = I 489 k) (h11 : F 1 1 = e_n 0) (h19 : F 489 19 = e_n 0) (h1 : F 1 2 = F 489 21) (h3 : ∀ k, k < 3 → F 3 k = F 501 k) (hi : F 1 9 = I 1 9) : Rel F zf B := by
  have hb := bd_cases z
  obtain ⟨a1, a2, a3, a4, a5, a6, a7, a8, a9, a10, a11⟩ := H
  have hh : ∀ r, 50 ≤ r → r < 489 → F r = I r := fun r q1 q2 => hr r (by omega) (by omega) (by omega) (by omega) (by omega) (by omega) (by omega)
  have hh2 : ∀ r, 490 ≤ r → r < 501 → F r = I r := fun r q1 q2 => hr r (by omega) (by omega) (by omega) (by omega) (by omega) (by omega) (by omega)
  have hh3 : ∀ r, 514 < r → F r = I r := fun r q1 => hr r (by omega) (by omega) (by omega) (by omega) (by omega) (by omega) (by omega)
  refine ⟨a1, ?_, RB_fr (fun k q1 q2 => h9 k (by omega)) (fun r q1 q2 => hh2 r (by omega) (by omega)) a3, by rw [h9 61 (by omega)]; exact a4, by rw [h9 69 (by omega)]; exact a5, ⟨0, Nat.zero_le _, h11, h19, fun k hk => absurd hk (Nat.not_lt_zero k)⟩, h1, h3, ?_, ?_, ?_⟩
  · rw [hz]
    exact BrC_fr (fun k k1 k2 k3 k4 k5 => hr _ (by omega) (by omega) (by omega) (by omega) (by omega) (by omega) (by omega)) a2
  · rw [h9 56 (by omega), h9 76 (by omega)]
    exact StR_fr (fun r r1 r2 => hh r (by omega) (by omega)) (hh3 515 (by omega)) (hh3 516 (by omega)) (hh3 532 (by omega)) a9
  · rw [hi, h9 81 (by omega), hh 260 (by omega) (by omega)]; exact a10
  · rw [h9 81 (by omega), h9 82 (by omega), h9 83 (by omega)]
    rcases a11 with q | ⟨q, r⟩
    · exact Or.inl q
    · exact Or.inr ⟨q, StR_fr (fun r r1 r2 => hh r (by omega) (by omega)) (hh3 535 (by omega)) (hh3 536 (by omega)) (hh3 537 (by omega)) r⟩
theorem cnt_z {f : Nat → Bool} : ∀ n, (∀ i, f i = false) → cnt n f = 0
  | 0, _ => rfl
  | n + 1, h => by
    rw [cnt_succ, h n, if_neg (by decide)]
    exact cnt_z n h
/-- a board told: what both hold -/
theorem Rel_new {F : Nat → Nat → Int32} {zf : e_Z} {B : e_B} {b : Nat} (wb : WB B) (hb : bd zf.2.1.1 = b) (hB : BrC F b B) (hRB : RB F B) (h61 : F 489 61 = e_n (-1)) (h69 : F 489 69 = e_n (-1)) (h11 : F 1 1 = e_n 0) (h19 : F 489 19 = e_n 0) (h1 : F 1 2 = F 489 21) (h3 : ∀ k, k < 3 → F 3 k = F 501 k) (hi : F 1 9 = e_n 0) (h81 : F 489 81 = e_n 0) (h260 : F 260 2 = e_n 0)
    (g1 : F 51 0 = e_n 0 ∧ F 51 1 = e_n 0 ∧ F 51 2 = e_n 0 ∧ F 51 3 = e_n 0 ∧ F 51 4 = e_n 1) (g2 : ∀ j, j < 9 → F 52 j = e_n (-1) ∧ F 53 j = e_n (-1)) (g3 : ∀ j, j < bPe B → F 54 j = bR B 10 (22 + j)) (g4 : ∀ j, j < bMa B → F 55 j = bR B 10 (31 + j)) (g5 : F 50 3 = e_n 0 ∧ F 50 4 = e_n 0) (g6 : ∃ o : Nat, o < 40 ∧ F 50 2 = e_n (o : Nat))
    (m0 : F 515 0 = e_n 0 ∧ F 515 1 = e_n 0 ∧ F 515 2 = e_n 0 ∧ F 515 3 = e_n 1) (m1 : ∀ k, 4 ≤ k → k < 22 → F 515 k = e_n (-1)) (m2 : ∀ p, p < bPe B → F 515 (22 + p) = bR B 10 (22 + p)) (m3 : ∀ m, m < bMa B → F 515 (31 + m) = bR B 10 (31 + m)) (h56 : F 489 56 = e_n 0) (h76 : F 489 76 = e_n 0) : Rel F zf B := by
  have w4 := wb.2.2.2.1
  have hlm : lm B (F 515) = e_n 0 := by
    apply bt_ext
    intro i hi
    rw [bt_lm w4, bt_0]
    by_cases hp : i < bPe B
    · rw [m1 (4 + i) (by omega) (by omega)]
      simp
    · simp [hp]
  have hbt : ∀ i, bt (F 515 1) i = false := fun i => by rw [m0.2.1]; exact bt_0 i
  refine ⟨wb, by rw [hb]; exact hB, hRB, h61, h69, ⟨0, Nat.zero_le _, h11, h19, fun k hk => absurd hk (Nat.not_lt_zero k)⟩, h1, h3, ⟨?_, ?_, ?_, ?_⟩, ⟨by rw [hi, h81], h260⟩, Or.inl h81⟩
  · refine ⟨by rw [g1.1, m0.1], by rw [g1.2.1, hlm], by rw [g1.2.2.1, m0.2.1], by rw [g1.2.2.2.1, m0.2.2.1], by rw [g1.2.2.2.2, m0.2.2.2], fun p hp => ⟨?_, ?_, ?_⟩, fun p _ hp => (g2 p hp).2, fun m hm => ?_⟩
    · rw [m1 (4 + p) (by omega) (by omega)]; exact (g2 p (by omega)).1
    · rw [m1 (13 + p) (by omega) (by omega)]; exact (g2 p (by omega)).2
    · rw [m2 p hp]; exact g3 p hp
    · rw [m3 m hm]; exact g4 m hm
  · refine ⟨⟨0, by decide, m0.1, fun p hp => Or.inl (m1 (4 + p) (by omega) (by omega))⟩, fun p hp => ?_, fun p hp => Or.inl (m1 (13 + p) (by omega) (by omega)), Or.inr m0.2.2.2, fun m hm => ?_, fun i _ => hbt i, ?_⟩
    · rw [m2 p hp]
      exact (wb.2.2.2.2.2.2.2.2.1 p hp).2.1
    · rw [m3 m hm]
      exact wb.2.2.2.2.2.2.2.2.2.1 m hm
    · rw [m0.2.2.1, cnt_z _ hbt]; rfl
  · obtain ⟨o, o1, o2⟩ := g6
    exact ⟨o, 0, o1, by decide, o2, g5.1, h56, fun k hk => absurd hk (Nat.not_lt_zero k)⟩
  · exact ⟨0, by decide, g5.2, h76, fun k hk => absurd hk (Nat.not_lt_zero k)⟩
theorem b118_84 {d b0 : Nat} {I : Nat → Nat → Int32} {z : e_Z} {x1 x2 : Int32} : e_L d 118 84 [.ref 1, .int x1, .int x2, .ref b0] [] (mk I z) = (e_rV (e_E d 94 [.ref 50, .ref (bd z.2.1.1)] (mk I z)) (fun σ => e_L d 118 95 [.ref 1, .int x1, .int x2, .ref b0] [] σ) (e_H (e_L d 118) 118 92 [.ref 1, .int x1, .int x2, .ref b0])) := e_L_to hd118 5 (by generalize e_L d 118 = K; generalize e_E d = E; rfl)
theorem b118_95 {d b0 : Nat} {I : Nat → Nat → Int32} {z : e_Z} {x1 x2 : Int32} : e_L d 118 95 [.ref 1, .int x1, .int x2, .ref b0] [] (mk I z) = (if 11 = 11 ∧ (e_n 0 = 0 ∨ e_n 0 = 1) then (some (.inl (some (.int (e_n 0))), mk (e_u I 1 9 (e_n 0)) z)) else none) := e_L_to hd118 5 (by generalize e_L d 118 = K; generalize e_E d = E; rfl)
theorem face_board {d : Nat} {I : Nat → Nat → Int32} {z : e_Z} {B : e_B} {x1 : Int32} (H : Rel I z B) : FaceY (fun e => e = 1) (d + 42 + 4) (e_n 1) I z 118 216 [.int x1] := by
  obtain ⟨n0, hn0, h11, h19, htape⟩ := H.2.2.2.2.2.1
  have hst := H.2.2.2.2.2.2.2.1
  by_cases hx : x1 < 0 ∨ I 1 1 < x1
  · -- refused at once
    refine ⟨.inr 1, I, z, zs_rf z, ?_, (fun e h => by cases h; rfl), fun z2 h2 => ⟨e_u (e_u I 489 0 (e_n 0)) 489 0 (e_n 1), z2, B, e_n 0, ?_, rfl, rfl, ?_, ?_⟩⟩
    · refine (e_E_11 (d := d + 55) (y := 118) rfl).trans ?_
      show e_L (d + 42 + 13) 118 0 [.ref 1, .int x1, .null, .null] [] (mk I z) = _
      rw [C118_0, if_pos hx]
      rfl
    · refine e_E_ret (d := d + 55) ?_
      show e_L (d + 48 + 7) 216 0 [.ref 489, .int x1, .null] [] (mk I z2) = _
      have hr : e_E (d + 48 + 7) 177 [.ref 489, .int (tf (¬ (x1 < 0) ∧ ¬ (I 489 19 < x1))), .int (e_n 1)] (mk (e_u I 489 0 (e_n 0)) z2) = some (.inl (some (.int (e_n 0))), mk (e_u (e_u I 489 0 (e_n 0)) 489 0 (e_n 1)) z2) := right_n (d := d + 48 + 6) K0 (fun q => hx.elim q.1 (fun q2 => q.2 (by rw [h19, ← h11]; exact q2))) (by decide)
      rw [C216_0, hr, e_rI_i, C216_27, if_pos (by decide)]
    · have hE : RfE I (e_u (e_u I 489 0 (e_n 0)) 489 0 (e_n 1)) := RfE_tr RfE_0 RfE_0
      exact Rel_r (z := z) (z' := z2) (by rw [h2]) hE.1 hE.2 H
    · show e_u (e_u I 489 0 (e_n 0)) 489 0 (e_n 1) 489 0 = if (1 : Nat) = 0 then e_n 1 else e_n 1
      rw [e_u_same, ite_self]
  · -- read
    obtain ⟨m, hmn, rfl⟩ : ∃ m : Nat, m ≤ n0 ∧ x1 = e_n (m : Nat) := by
      obtain ⟨a, q1, q2, rfl⟩ := e_n_toI x1
      have h3 : ¬ e_n a < 0 := fun q => hx (Or.inl q)
      have h4 : ¬ e_n (n0 : Nat) < e_n a := fun q => hx (Or.inr (by rw [h11]; exact q))
      rw [← e_n_zero, e_n_lt (by omega) (by omega) (by omega) (by omega)] at h3
      rw [e_n_lt (by omega) (by omega) (by omega) (by omega)] at h4
      exact ⟨a.toNat, by omega, by congr 1; omega⟩
    have hm : m ≤ 700 := by omega
    have hbc := bd_cases z
    obtain ⟨J, r, e1, e2, e3, e4⟩ := c60h (d := d) (m := m) (s := !z.2.1.1) (b := I 2) (I := e_u I 1 1 (e_n 0)) (z := z) hm (fun k hk => by rw [e_u_na (by decide)])
    have J1 : ∀ k, J 1 k = if k = 1 then e_n 0 else I 1 k := fun k => by rw [e2 1 (by omega) (by omega), e_u_at]
    have Jr : ∀ q, (q < 44 ∨ 49 < q) → q ≠ 1 → ¬ (bd (!z.2.1.1) ≤ q ∧ q < bd (!z.2.1.1) + 20) → J q = I q := fun q q1 q2 q3 => by rw [e2 q q1 q3, e_u_na q2]
    have hcls : e_L (d + 42 + 13) 118 0 [.ref 1, .int (e_n (m : Nat)), .null, .null] [] (mk I z) = e_L (d + 42 + 13) 118 43 [.ref 1, .int (e_n (m : Nat)), .null, .null] [.int r] (mk J (zR (zT z) (!z.2.1.1))) := by
      have e1' : e_E (d + 42 + 13) 60 [.ref 44, .ref 2, .int (e_n (m : Nat)), .ref (bd (!z.2.1.1))] (mk (e_u I 1 1 (e_n 0)) z) = some (.inl (some (.int r)), mk J (zR (zT z) (!z.2.1.1))) := e1
      rw [C118_0, if_neg hx, e1', e_rI_i]
    cases hy : Ybrd (I 2) m 701 Be (skB (I 2) m 0) with
    | inr e =>
      obtain ⟨f, q⟩ := e
      rw [hy, LOo_er] at e3
      obtain ⟨f1, f2, f3, f4⟩ := e3
      generalize hK : e_u (e_u J 1 2 (J 44 3)) 3 0 (J 3 0 + e_n 1) = K
      have k12 : K 1 2 = e_n (q : Nat) := by rw [← hK, e_u_na (by decide), e_u_same]; exact f2
      have k1 : ∀ k, k ≠ 2 → K 1 k = J 1 k := fun k hk => by rw [← hK, e_u_na (by decide), e_u_ne hk]
      have k3 : ∀ k, K 3 k = if k = 0 then J 3 0 + e_n 1 else J 3 k := fun k => by rw [← hK, e_u_at, e_u_na (by decide)]
      have kr : ∀ r, r ≠ 1 → r ≠ 3 → K r = J r := fun r q1 q2 => by rw [← hK, e_u_na q2, e_u_na q1]
      have hr : r = e_n (f : Nat) := e4.trans f1
      refine ⟨.inl (e_n (f : Nat)), K, zR (zT z) (!z.2.1.1), ⟨rfl, rfl⟩, ?_, (fun e h => by cases h), fun z2 h2 => ?_⟩
      · refine e_E_ret (d := d + 55) ?_
        refine hcls.trans ?_
        have hn0' : ¬ r = 0 := by rw [hr, show (0 : Int32) = e_n ((0 : Nat) : Nat) from rfl, en_eq (by omega) (by omega)]; omega
        have hw : wr (e_u J 1 2 (J 44 3)) 3 (e_n 0) (rd (e_u J 1 2 (J 44 3)) 3 (e_n 0) + e_n 1) = K := by
          rw [show (e_n 0) = e_n ((0 : Nat) : Nat) from rfl, wr_N (r := 3) (k := 0) (by decide +kernel), rd_N (r := 3) (k := 0) (by decide +kernel), e_u_na (by decide), ← hK]
        rw [C118_43, if_neg hn0', hw, hr]
      · obtain ⟨L, z3, g1, g2, g3, g4, g5, g6, g7, g8⟩ := c216p (d := d + 48) (m := m) (n0 := n0) (b := I 2) (K := K) (z := z2) hm hmn hn0 (by rw [kr 489 (by decide) (by decide), Jr 489 (by omega) (by decide) (by omega)]; exact h19) (fun k hk => by rw [kr 500 (by decide) (by decide), Jr 500 (by omega) (by decide) (by omega)]; exact (htape k (by omega)).symm)
        rw [hy, RLo_er] at g7
        obtain ⟨r1, r2, r3, r4⟩ := g7
        have hne : ¬ L 489 20 = 0 := RE_ne ⟨r1, r2, r3, r4⟩
        refine ⟨e_u L 501 0 (L 501 0 + e_n 1), z3, B, e_n (f : Nat), ?_, g6.1, ?_, ?_, ?_⟩
        · refine e_E_ret (d := d + 55) ?_
          refine (show e_L (d + 48 + 7) 216 0 [.ref 489, .int (e_n (m : Nat)), .null] [] (mk K z2) = _ from g1).trans ?_
          rw [C216_101, if_neg hne, r1]
        · funext k
          exact g6.2 538 k (by omega)
        · have h501 : L 501 = I 501 := by rw [g2 501 (by decide) (by omega), kr 501 (by decide) (by decide), Jr 501 (by omega) (by decide) (by omega)]
          have h3J : J 3 = I 3 := Jr 3 (by omega) (by decide) (by omega)
          have Fr : ∀ r, r ≠ 501 → (e_u L 501 0 (L 501 0 + e_n 1)) r = L r := fun r hr => e_u_na hr
          refine Rel_keep H ?_ (fun r q1 q2 q3 q4 q5 q6 q7 => ?_) (fun k hk => ?_) ?_ ?_ ?_ (fun k hk => ?_) ?_
          · rw [g6.1, h2]; rfl
          · rw [Fr r q6, g2 r q5 (by omega), kr r q2 q3, Jr r (by omega) q2 q1]
          · rw [Fr 489 (by decide), g3 k (by omega), kr 489 (by decide) (by decide), Jr 489 (by omega) (by decide) (by omega)]
          · rw [Fr 1 (by decide), g2 1 (by decide) (by omega), k1 1 (by decide), J1, if_pos rfl]
          · rw [Fr 489 (by decide)]; exact g5
          · rw [Fr 1 (by decide), g2 1 (by decide) (by omega), k12, Fr 489 (by decide), r2]
          · rw [Fr 3 (by decide), g2 3 (by decide) (by omega), k3, h3J, e_u_at, h501]
            have hk3 := hst k hk
            by_cases hk0 : k = 0
            · rw [if_pos hk0, if_pos hk0, ← hst 0 (by decide)]
            · rw [if_neg hk0, if_neg hk0]; exact hk3
          · rw [Fr 1 (by decide), g2 1 (by decide) (by omega), k1 9 (by decide), J1, if_neg (by decide)]
        · show e_u L 501 0 (L 501 0 + e_n 1) 489 0 = e_n 0 ∧ _
          refine ⟨?_, rfl⟩
          rw [e_u_na (by decide)]; exact g4
    | inl rr =>
      obtain ⟨q, B'⟩ := rr
      have hp : skB (I 2) m 0 ≤ m := (skB_n (Nat.zero_le m)).2
      obtain ⟨wb', hq⟩ := Ybrd_wb hm 701 Be _ q B' hp WB_e hy
      rw [hy, LOo_in] at e3
      obtain ⟨hT, hB⟩ := e3
      have h443 : J 44 3 = e_n (-1) := hT.2.2
      have hr : r = 0 := e4.trans hT.2.1
      obtain ⟨G, c1, c2, c3, c4, c5, c6⟩ := c94f (d := d + 52) (b := bd (!z.2.1.1)) (I := e_u J 1 2 (J 44 3)) (z := zS (zR (zT z) (!z.2.1.1))) (B2_bd _)
      generalize hK : e_u G 1 9 (e_n 0) = K
      have kr : ∀ r, r ≠ 1 → K r = G r := fun r q1 => by rw [← hK, e_u_na q1]
      have k19 : K 1 9 = e_n 0 := by rw [← hK, e_u_same]
      have k1 : ∀ k, k ≠ 9 → K 1 k = if k = 2 then e_n (-1) else J 1 k := fun k hk => by rw [← hK, e_u_ne hk, c6 1 (by omega), e_u_at, h443]
      have KJ : ∀ r, r ≠ 1 → (r < 50 ∨ 55 < r) → K r = J r := fun r q1 q2 => by rw [kr r q1, c6 r q2, e_u_na q1]
      refine ⟨.inl (e_n 0), K, zS (zR (zT z) (!z.2.1.1)), ⟨rfl, rfl⟩, ?_, (fun e h => by cases h), fun z2 h2 => ?_⟩
      · refine e_E_ret (d := d + 55) ?_
        refine hcls.trans ?_
        have c1' : e_E (d + 42 + 13) 94 [.ref 50, .ref (bd (zS (zR (zT z) (!z.2.1.1))).2.1.1)] (mk (e_u J 1 2 (J 44 3)) (zS (zR (zT z) (!z.2.1.1)))) = some (.inl none, mk G (zS (zR (zT z) (!z.2.1.1)))) := c1
        have hms : ms (e_u J 1 2 (J 44 3)) (zR (zT z) (!z.2.1.1)).1 (e_u (e_u (fr (zR (zT z) (!z.2.1.1)).2.1) 1 5 (bd (zR (zT z) (!z.2.1.1)).2.1.1)) 1 4 (bd (!(zR (zT z) (!z.2.1.1)).2.1.1))) (zR (zT z) (!z.2.1.1)).2.2.1 (zR (zT z) (!z.2.1.1)).2.2.2 = mk (e_u J 1 2 (J 44 3)) (zS (zR (zT z) (!z.2.1.1))) := mk_zS
        rw [C118_43, if_pos hr, b118_79 (x := 0), hms, b118_84, c1', e_rV_n, b118_95, if_pos (by decide), hK]
      · obtain ⟨L, z3, g1, g2, g3, g4, g5, g6, g7, g8⟩ := c216p (d := d + 48) (m := m) (n0 := n0) (b := I 2) (K := K) (z := z2) hm hmn hn0 (by rw [KJ 489 (by decide) (by omega), Jr 489 (by omega) (by decide) (by omega)]; exact h19) (fun k hk => by rw [KJ 500 (by decide) (by omega), Jr 500 (by omega) (by decide) (by omega)]; exact (htape k (by omega)).symm)
        have hk0 := g8 q B' hy
        rw [hy, RLo_in] at g7
        obtain ⟨hG, hN⟩ := g7
        obtain ⟨F, v1, v2, v3, v4, v5, v6, v7, v8, v9, v10, v11, v12, v13⟩ := c216e (d := d + 48) (x1 := e_n (m : Nat)) hG hk0
        have Fr : ∀ r, r ≠ 489 → (r < 490 ∨ 499 < r) → (r < 502 ∨ 514 < r) → r ≠ 515 → F r = K r := fun r q1 q2 q3 q4 => by rw [v13 r q1 q2 (by omega) q4, g2 r q1 q3]
        have F9 : ∀ k, (7 < k ∧ k < 19) ∨ 40 < k → k ≠ 56 → k ≠ 76 → k ≠ 81 → F 489 k = I 489 k := fun k q1 q2 q3 q4 => by rw [v12 k (by omega) q2 q3 q4, g3 k (by omega), KJ 489 (by decide) (by omega), Jr 489 (by omega) (by decide) (by omega)]
        have hf0 : F 489 0 = e_n 0 := by rw [v12 0 (by omega) (by decide) (by decide) (by decide)]; exact g4
        have hbb := B2_bd (!z.2.1.1)
        have hbc2 : bd (!z.2.1.1) = 4 ∨ bd (!z.2.1.1) = 24 := hbb
        obtain ⟨n1, n2, n3, n4, n5, n6, n7, n8, n9, n10, n11, n12, n13, n14⟩ := hN
        obtain ⟨w1, w2, w3, w4, w5, w6, -⟩ := id wb'
        have hBF : BrC F (bd (!z.2.1.1)) B' := BrC_fr (fun k q1 q2 q3 q4 q5 => by rw [Fr _ (by omega) (by omega) (by omega) (by omega), KJ _ (by omega) (by omega)]) hB
        have hRB : RB F B' := by
          refine ⟨(v8 1 (by decide) (by decide)).trans n1, (v8 2 (by decide) (by decide)).trans n2, (v8 3 (by decide) (by decide)).trans n3, (v8 4 (by decide) (by decide)).trans n4, (v8 5 (by decide) (by decide)).trans n5, (v8 6 (by decide) (by decide)).trans n6, (v8 7 (by decide) (by decide)).trans n7, fun a ha => (v2 a (by omega)).trans (n9 a ha), fun w hw => ?_, fun p hp => ?_, fun k hk => ?_, ?_, fun hne j hj => ?_⟩
          · obtain ⟨q1, q2, q3⟩ := v3 w (by omega)
            obtain ⟨t1, t2, t3⟩ := n10 w hw
            exact ⟨q1.trans t1, q2.trans t2, q3.trans t3⟩
          · obtain ⟨q1, q2⟩ := v4 p (by omega)
            obtain ⟨t1, t2, t3⟩ := n11 p hp
            exact ⟨q1.trans t1, q2.trans t2⟩
          · obtain ⟨q1, q2, q3⟩ := v5 k (by omega)
            obtain ⟨t1, t2, t3⟩ := n12 k hk
            exact ⟨q1.trans t1, q2.trans t2, q3.trans t3⟩
          · by_cases hO : bO B' = []
            · rw [hO]; decide
            · have := (n14 hO).1; omega
          · obtain ⟨q1, q2⟩ := n14 hne
            rw [v6 j (by omega)]
            exact q2 j hj
        have hM : ∀ j, j < 34 → F 515 j = M0 L j := v7
        refine ⟨F, z3, B', e_n 0, ?_, g6.1, ?_, ?_, hf0, rfl⟩
        · refine e_E_ret (d := d + 55) ?_
          refine (show e_L (d + 48 + 7) 216 0 [.ref 489, .int (e_n (m : Nat)), .null] [] (mk K z2) = _ from g1).trans ?_
          exact v1
        · funext k
          exact g6.2 538 k (by omega)
        · have F1 : F 1 = K 1 := Fr 1 (by decide) (by omega) (by omega) (by decide)
          have FG : ∀ r, 50 ≤ r → r ≤ 55 → F r = G r := fun r q1 q2 => by rw [Fr r (by omega) (by omega) (by omega) (by omega), kr r (by omega)]
          obtain ⟨b1, b2, b3, b4, b5, b6, b7, b8, b9, b10, -⟩ := id hB
          refine Rel_new (b := bd (!z.2.1.1)) wb' ?_ hBF hRB ?_ ?_ ?_ ?_ ?_ (fun k hk => ?_) ?_ v11 ?_ ?_ (fun j hj => ?_) (fun j hj => ?_) (fun j hj => ?_) ?_ ?_ ?_ (fun k q1 q2 => ?_) (fun p hp => ?_) (fun m2 hm2 => ?_) v9 v10
          · rw [g6.1, h2]; rfl
          · rw [F9 61 (by omega) (by decide) (by decide) (by decide)]; exact H.2.2.2.1
          · rw [F9 69 (by omega) (by decide) (by decide) (by decide)]; exact H.2.2.2.2.1
          · rw [F1, k1 1 (by decide), if_neg (by decide), J1, if_pos rfl]
          · rw [v12 19 (by omega) (by decide) (by decide) (by decide)]; exact g5
          · rw [F1, k1 2 (by decide), if_pos rfl, v12 21 (by omega) (by decide) (by decide) (by decide)]
            exact (hG.1.2.2.2.2.2.2.2.2.2.2).symm
          · rw [Fr 3 (by decide) (by omega) (by omega) (by decide), Fr 501 (by decide) (by omega) (by omega) (by decide), KJ 3 (by decide) (by omega), KJ 501 (by decide) (by omega), Jr 3 (by omega) (by decide) (by omega), Jr 501 (by omega) (by decide) (by omega)]
            exact hst k hk
          · rw [F1]; exact k19
          · rw [Fr 260 (by decide) (by omega) (by omega) (by decide), KJ 260 (by decide) (by omega), Jr 260 (by omega) (by decide) (by omega)]
            exact H.2.2.2.2.2.2.2.2.2.1.2
          · rw [FG 51 (by decide) (by decide)]; exact c2
          · rw [FG 52 (by decide) (by decide), FG 53 (by decide) (by decide)]; exact ⟨(c3 j hj).1, (c3 j hj).2.1⟩
          · rw [FG 54 (by decide) (by decide), (c3 j (by omega)).2.2, e_u_na (by omega)]; exact (b9 j hj).2.2
          · rw [FG 55 (by decide) (by decide), c4 j (by omega), e_u_na (by omega)]; exact (b10 j hj).2.2
          · rw [FG 50 (by decide) (by decide)]; exact ⟨c5.1, c5.2.1⟩
          · obtain ⟨-, -, ⟨o, nn, o1, o2, o3, -⟩, -⟩ := H.2.2.2.2.2.2.2.2.1
            exact ⟨o, o1, by rw [FG 50 (by decide) (by decide), c5.2.2, e_u_na (by decide), Jr 50 (by omega) (by decide) (by omega)]; exact o3⟩
          · refine ⟨?_, ?_, ?_, ?_⟩
            · rw [hM 0 (by decide)]; rfl
            · rw [hM 1 (by decide)]; rfl
            · rw [hM 2 (by decide)]; rfl
            · rw [hM 3 (by decide)]; rfl
          · rw [hM k (by omega)]
            unfold M0
            rw [if_neg (by omega), if_neg (by omega), if_pos q2]
          · rw [hM _ (by omega)]
            unfold M0
            rw [if_neg (by omega), if_neg (by omega), if_neg (by omega)]
            exact (n11 p hp).2.2
          · rw [hM _ (by omega)]
            unfold M0
            rw [if_neg (by omega), if_neg (by omega), if_neg (by omega)]
            exact n13 m2 hm2
end S99zzl
