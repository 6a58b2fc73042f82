/-! lists -/
section S99p
theorem wm_da {B : e_B} {q : Int32 × e_T} (wb : WB B) (hm : 0 < bMa B) (hp : 0 < bPe B) (wm : WM B (q.2 0)) : WM B ((daS B q).2 0) :=
  itr_inv (fun _ q => WM B (q.2 0)) (n := bPe B) (f := fd1 B) (s := nmS B q) (wm_nm wb hm hp wm) (fun _ _ hi h => wm_fd wb hi h)
theorem wm_lo {B : e_B} {n : Nat} {q : Int32 × e_T} (wb : WB B) (wm : WM B (q.2 0)) : WM B ((loS B n q).2 0) := by
  unfold loS
  split
  · exact wm
  · rename_i h
    exact itr_inv (fun _ q => WM B (q.2 0)) (n := n) (f := fun _ => daS B) (s := q) wm (fun _ _ _ h2 => wm_da wb (by omega) (by omega) h2)
def dbS (B : e_B) (M : Nat → Int32) : Int32 := itr (fun m q => q + M (31 + m)) (bMa B) 0 (e_n 0)
theorem F162 {d : Nat} {I : Nat → Nat → Int32} {z : e_Z} {B : e_B} (H : Rel I z B) {x x2 x3 : Int32} : Face d (e_n 2) I z 162 289 [.int x, .int x2, .int x3] := by
  have wb := rel_wb H
  have wb1 : bMa B ≤ 3 := wb.1
  have wb4 : bPe B ≤ 9 := wb.2.2.2.1
  have hb := B2_bd z.2.1.1
  have hbl := B2_le hb
  by_cases hw : x3 < 0 ∨ ¬ x3 < e_n ((3 : Nat) : Nat)
  · refine throw_p H ?_ ?_
    · refine (e_E_11 (d := d + 9) (y := 162) rfl).trans ?_
      show e_L (d + 9) 162 0 [.ref 1, .int x, .int x2, .int x3] [] (mk I z) = _
      rw [C162_0, if_pos (show x3 < 0 ∨ ¬ x3 < e_n 3 from hw)]; rfl
    · intro J z2 HJ
      refine ⟨e_n 0, e_E_ret (d := d + 9) ?_⟩
      show e_L (d + 9) 289 0 [.ref 489, .int x, .int x2, .int x3, .null, .null] [] (mk J z2) = _
      rw [C289_0, c246n (x2 := e_n 2) (k := 2) rfl (by decide) K0 hw, e_rI_i, C289_11, if_pos (by decide)]
  have pre : ∀ (J : Nat → Nat → Int32) (z2 : e_Z), e_L (d + 9) 289 0 [.ref 489, .int x, .int x2, .int x3, .null, .null] [] (mk J z2) = e_L (d + 9) 289 11 [.ref 489, .int x, .int x2, .int x3, .null, .null] [.int (e_n 1)] (mk (e_u J 489 0 (e_n 0)) z2) := by
    intro J z2
    rw [C289_0, c246y (x2 := e_n 2) (k := 2) rfl (by decide) K0 hw, e_rI_i]
  by_cases hn : x2 < 0 ∨ e_n 60 < x2
  · refine throw_q H ?_ ?_
    · refine (e_E_11 (d := d + 9) (y := 162) rfl).trans ?_
      show e_L (d + 9) 162 0 [.ref 1, .int x, .int x2, .int x3] [] (mk I z) = _
      rw [C162_0, if_neg (show ¬ (x3 < 0 ∨ ¬ x3 < e_n 3) from hw)]
      by_cases h1 : x2 < 0
      · rw [if_pos h1]; rfl
      · rw [if_neg h1, if_pos (hn.resolve_left h1)]; rfl
    · intro J z2 HJ
      refine ⟨e_n 0, e_E_ret (d := d + 9) ?_⟩
      show e_L (d + 9) 289 0 [.ref 489, .int x, .int x2, .int x3, .null, .null] [] (mk J z2) = _
      rw [pre, C289_11, if_neg (by decide), right_n K0 (fun q => hn.elim q.1 q.2) (by decide), e_rI_i, C289_26, if_pos (by decide)]
  obtain ⟨w, hw3, rfl⟩ := in_n (by decide) hw
  obtain ⟨n, hn61, rfl⟩ := in_n (x := x2) (n := 61) (by decide) (fun h => hn (by
    rcases h with h | h
    · exact Or.inl h
    · right
      have := most_n (x := x2) (k := 60) (by decide)
      rw [this, Decidable.not_not] at h
      exact h))
  have hn60 : n ≤ 60 := by omega
  generalize hq0 : loS B n (x, begF (I 515)) = Q
  have wmQ : WM B (Q.2 0) := by rw [← hq0]; exact wm_lo wb (wm_fl wb (rel_wm H))
  obtain ⟨I1, a1, a2, a3⟩ := c41h (d := d + 3) (z := z) (x := x) hb wb (rel_bc H) (rel_mc H) (rel_wm H) hn60
  rw [hq0] at a2
  have hdead : ∀ i, 9 ≤ i → bt (Q.2 0 1) i = false := fun i hi => wmQ.2.2.2.2.2.1 i (by omega)
  have hdb : v58 I1 484 (bd z.2.1.1) = dbS B (Q.2 0) := by
    unfold v58 dbS
    rw [a3 _ (by omega), (rel_bc H).1, e_n_nat' (by omega)]
    apply itr_congr
    intro m s hm
    rw [show (484 + 4 : Nat) = 488 from rfl, rd_N (r := 488) (Nat.lt_of_lt_of_le hm (Nat.le_trans wb1 (by decide))), a2.2.2.2.2.2.1 m hm]
  refine face_rd H (r := .inl (if w = 0 then bc (Q.2 0 1) else if w = 1 then dbS B (Q.2 0) else Q.2 4 1)) (I1 := I1) (zs_rf z) rfl ?_ (fun r hr => a3 r (by unfold ScrC at hr; omega)) ?_
  · refine e_E_ret (d := d + 9) ?_
    show e_L (d + 9) 162 0 [.ref 1, .int x, .int (e_n (n : Nat)), .int (e_n (w : Nat))] [] (mk I z) = _
    rw [C162_0, if_neg (show ¬ (e_n (w : Nat) < 0 ∨ ¬ e_n (w : Nat) < e_n 3) from hw), if_neg (fun h => hn (Or.inl h)), if_neg (fun h => hn (Or.inr h)), a1, e_rV_n, C162_46, a2.2.1, c329, e_rI_i, v329_bc hdead, C162_85, hdb, a2.2.2.2.2.2.2.2]
    match w, hw3 with
    | 0, _ => rfl
    | 1, _ => rfl
    | 2, _ => rfl
    | _ + 3, h => omega
  · intro J z2 HJ hq
    obtain ⟨t, ht, hd⟩ := rel_day H
    have hqq : ∀ j, j < 34 → e_u J 489 0 (e_n 0) 515 j = I 515 j := fun j _ => by rw [K515 (by decide), hq 515 (by decide)]
    obtain ⟨J1, b1, b2, b3, b4⟩ := c235h (d := d + 7) (z := z2) hqq
    obtain ⟨r1, r2, r3, r4, r5, r6, r7⟩ := b2
    have rb := RB_0 (v := e_n 0) (rel_rb HJ)
    generalize hG : e_u J1 489 79 x = G
    have hGr : RfE J G := by
      rw [← hG]
      refine RfE_tr (RfE_0 (v := e_n 0)) (RfE_tr (b := J1) ⟨fun r h1 h2 => b3 r h1 (fun q => h2 (by unfold ScrR; omega)) (fun q => h2 (by unfold ScrR; omega)) (fun q => h2 (by unfold ScrR; omega)), fun j hj => b4 j (fun q => hj (by unfold ScrF; omega)) (fun q => hj (by unfold ScrF; omega))⟩ (RfE_u (by unfold ScrF; omega)))
    have hGB : RB G B := by
      rw [← hG]
      refine RB_fr (fun k k1 k2 => by rw [e_u_ne (by omega), b4 k (by omega) (by omega)]) (fun q q1 q2 => by rw [e_u_na (by omega), b3 q (by omega) (by omega) (by omega) (by omega)]) rb
    have hG0 : G 489 0 = e_n 0 := by rw [← hG, e_u_ne (by decide), b4 0 (by decide) (by decide), K0]
    have hLR : LR G B (x, begF (I 515)) t := by
      rw [← hG]
      refine ⟨e_u_same, ?_, ?_, ?_, ?_⟩
      · rw [e_u_ne (by decide), r3]; rfl
      · intro j hj j0 jj
        rw [e_u_na (by decide), r1 j hj]
        show I 515 j = flM (I 515) j
        rw [flM_o j0 jj]
      · intro p hp
        rw [e_u_na (by decide), r1 (4 + p) (by omega)]
        show I 515 (4 + p) = _ ↔ flM (I 515) (4 + p) = _
        rw [flM_l hp]
      · rw [e_u_na (by decide), r1 0 (by decide)]; exact hd
    -- the mornings
    have fin : ∀ (K : Nat → Nat → Int32) (D : Nat) (u : Value), LR K B Q D → RB K B → e_L (d + 9) 289 79 [.ref 489, .int x, .int (e_n (n : Nat)), .int (e_n (w : Nat)), .int (e_n 0), .int (e_n 0)] [] (mk K z2) = some (.inl (some (.int (if w = 0 then bc (Q.2 0 1) else if w = 1 then dbS B (Q.2 0) else Q.2 4 1))), mk K z2) := by
      intro K D u hL hB
      have hma : K 489 1 = e_n (bMa B : Nat) := hB.1
      have sum : ∀ k m (s : Int32), m + k = bMa B → e_L (d + 9) 289 79 [.ref 489, .int x, .int (e_n (n : Nat)), .int (e_n (w : Nat)), .int s, .int (e_n (m : Nat))] [] (mk K z2) = e_L (d + 9) 289 79 [.ref 489, .int x, .int (e_n (n : Nat)), .int (e_n (w : Nat)), .int (itr (fun m q => q + Q.2 0 (31 + m)) k m s), .int (e_n (bMa B : Nat))] [] (mk K z2) := by
        intro k
        induction k with
        | zero => intro m s hm; rw [show m = bMa B by omega]; rfl
        | succ k ih =>
          intro m s hm
          rw [C289_79 (fun _ => ixI (a := 31) (by omega) (by decide)), if_pos (by rw [hma, e_n_ltN (by omega) (by omega)]; omega), show (e_n 31 + e_n (m : Nat)).toNatClampNeg = 31 + m from ix (a := 31) (by omega), hL.2.2.1 (31 + m) (by omega) (by omega) (by omega), e_n_succ]
          exact ih (m + 1) _ (by omega)
      have s0 := sum (bMa B) 0 (e_n 0) (by omega)
      have hnl : ¬ e_n (bMa B : Nat) < K 489 1 := by rw [hma, e_n_ltN (by omega) (by omega)]; omega
      refine s0.trans ?_
      rw [C289_79 (fun h => absurd h hnl), if_neg hnl, hL.2.2.1 1 (by decide) (by decide) (by decide), v181_bc, hL.2.1]
      match w, hw3 with
      | 0, _ => rfl
      | 1, _ => rfl
      | 2, _ => rfl
      | _ + 3, h => omega
    have fr2 : ∀ K, LRf G K → RfE J K := fun K h => RfE_tr hGr ⟨fun r h1 h2 => h.1 r h1 (fun q => h2 (by unfold ScrR; omega)) (fun q => h2 (by unfold ScrR; omega)), fun j hj => h.2 j (fun q => hj (by unfold ScrF; omega)) (fun q => hj (by unfold ScrF; omega))⟩
    have main : ∃ K, e_L (d + 9) 289 43 [.ref 489, .int x, .int (e_n (n : Nat)), .int (e_n (w : Nat)), .int (e_n 0), .null] [] (mk G z2) = some (.inl (some (.int (if w = 0 then bc (Q.2 0 1) else if w = 1 then dbS B (Q.2 0) else Q.2 4 1))), mk K z2) ∧ LRf G K := by
      have hma : ∀ K : Nat → Nat → Int32, RB K B → K 489 1 = e_n (bMa B : Nat) := fun K hB => hB.1
      have hpe : ∀ K : Nat → Nat → Int32, RB K B → K 489 4 = e_n (bPe B : Nat) := fun K hB => hB.2.2.2.1
      have pos0 : ∀ k : Nat, k < 1000 → ((0 : Int32) < e_n (k : Nat)) = (0 < k) := fun k hk => by rw [show (0 : Int32) = e_n ((0 : Nat) : Nat) from rfl, e_n_ltN (by omega) (by omega)]
      by_cases hz : bMa B = 0 ∨ bPe B = 0
      · have hQ : Q = (x, begF (I 515)) := by rw [← hq0]; unfold loS; rw [if_pos hz]
        refine ⟨G, ?_, fun _ _ _ _ => rfl, fun _ _ _ => rfl⟩
        have hf := fin G t .null (by rw [hQ]; exact hLR) hGB
        rw [C289_43, hma G hGB, hpe G hGB]
        by_cases h1 : e_n 0 < e_n (n : Nat)
        · rw [if_pos h1]
          rcases hz with hz | hz
          · rw [if_neg (by rw [pos0 _ (by omega)]; omega)]; exact hf
          · by_cases h2 : (0 : Int32) < e_n (bMa B : Nat)
            · rw [if_pos h2, if_neg (by rw [pos0 _ (by omega)]; omega)]; exact hf
            · rw [if_neg h2]; exact hf
        · rw [if_neg h1]; exact hf
      · have hQ : Q = itr (fun _ => daS B) n 0 (x, begF (I 515)) := by rw [← hq0]; unfold loS; rw [if_neg hz]
        have hm0 : 0 < bMa B := by omega
        have hp0 : 0 < bPe B := by omega
        have loop : ∀ k i (q : Int32 × e_T) (K : Nat → Nat → Int32), i + k = n → itr (fun _ => daS B) k i q = Q → LR K B q (t + i) → RB K B → WM B (q.2 0) → LRf G K → ∃ K', e_L (d + 9) 289 43 [.ref 489, .int x, .int (e_n (n : Nat)), .int (e_n (w : Nat)), .int (e_n (i : Nat)), .null] [] (mk K z2) = some (.inl (some (.int (if w = 0 then bc (Q.2 0 1) else if w = 1 then dbS B (Q.2 0) else Q.2 4 1))), mk K' z2) ∧ LRf G K' := by
          intro k
          induction k with
          | zero =>
            intro i q K hi hQq hL hB wm hf
            have : i = n := by omega
            subst this
            refine ⟨K, ?_, hf⟩
            rw [C289_43, if_neg (by rw [e_n_ltN (by omega) (by omega)]; omega)]
            have hq : q = Q := hQq
            exact fin K _ .null (by rw [← hq]; exact hL) hB
          | succ k ih =>
            intro i q K hi hQq hL hB wm hf
            obtain ⟨K1, g1, g2, g3, g4⟩ := c288h (d := d + 5) (z := z2) wb (show t + i < 1000 by omega) hm0 hp0 hB hL wm
            obtain ⟨K2, k1, k2⟩ := ih (i + 1) (daS B q) K1 (by omega) hQq (by rw [show t + (i + 1) = t + i + 1 by omega]; exact g2) (LRf_RB g4 hB) g3 (LRf_tr hf g4)
            refine ⟨K2, ?_, k2⟩
            rw [C289_43, if_pos (by rw [e_n_ltN (by omega) (by omega)]; omega), hma K hB, hpe K hB, if_pos (by rw [pos0 _ (by omega)]; exact hm0), if_pos (by rw [pos0 _ (by omega)]; exact hp0), g1, e_rV_n, C289_67, e_n_succ]
            exact k1
        exact loop n 0 (x, begF (I 515)) G (by omega) hQ.symm hLR hGB (wm_fl wb (rel_wm H)) ⟨fun _ _ _ _ => rfl, fun _ _ _ => rfl⟩
    obtain ⟨K, m1, m2⟩ := main
    refine ⟨K, _, e_E_ret (d := d + 9) ?_, fr2 K m2, ?_, rfl⟩
    · show e_L (d + 9) 289 0 [.ref 489, .int x, .int (e_n (n : Nat)), .int (e_n (w : Nat)), .null, .null] [] (mk J z2) = _
      rw [pre, C289_11, if_neg (by decide), right_y K0 ⟨fun h => hn (Or.inl h), fun h => hn (Or.inr h)⟩, e_rI_i, C289_26, if_neg (by decide), b1, e_rV_n, C289_35, hG]
      exact m1
    · rw [m2.2 0 (by decide) (by decide)]; exact hG0
end S99p
