/-! instead: face to face -/
section S93
theorem ws_wrS {B : e_B} {S : e_T} {sk : Int32} (wb : WB B) (ws : WS B S) : WS B (wrS B sk S).2 := by
  unfold wrS
  split
  · exact itr_inv (fun _ (q : Int32 × e_T) => WS B q.2) (n := bMa B) (f := wr1 B sk) (s := (e_n 0, S)) ws (fun i q hi h => (ws_wr1 (sk := sk) (n := q.1) wb h hi).1)
  · exact ws
theorem ws_fnS {B : e_B} {S : e_T} (wb : WB B) (ws : WS B S) : WS B (fnS B S).2 := by
  unfold fnS
  exact itr_inv (fun _ (q : Int32 × e_T) => WS B q.2) (n := bPe B) (f := fn1 B) (s := (e_n 0, S)) ws (fun i q hi h => (ws_fn1 (n := q.1) wb h hi).1)
theorem ws_mo {B : e_B} {S : e_T} {sk : Int32} {k t : Nat} (wb : WB B) (ws : WS B S) (hk : k < 30) (ht : t < 60) (hd : S 0 0 = e_n (t : Nat)) : WS B (moS B sk k S) ∧ moS B sk k S 0 0 = e_n ((t + 1 : Nat) : Nat) := by
  have wb4 : bPe B ≤ 9 := wb.2.2.2.1
  have hw := ws_wrS (sk := sk) wb ws
  generalize hS1 : (if (wrS B sk S).1 = e_n 0 ∧ S 4 2 = e_n (-1) then e_u (wrS B sk S).2 4 2 (S 0 0) else (wrS B sk S).2) = S1
  have ws1 : WS B S1 := by
    rw [← hS1]; split
    · exact WS_idle _ hw
    · exact hw
  have s0 : S1 0 = (wrS B sk S).2 0 := by rw [← hS1]; exact idle_0 (T := S)
  have h00 := (moS_k (sk := sk) (k := k) (S := S) wb4 hk).2.2.2.2.1
  have hmo : moS B sk k S = e_u (e_u (e_u (e_u (fnS B S1).2 5 k (wrS B sk S).1) 6 k (fnS B S1).1) 7 k (lm B ((fnS B S1).2 0))) 0 0 (e_u (e_u (e_u (fnS B S1).2 5 k (wrS B sk S).1) 6 k (fnS B S1).1) 7 k (lm B ((fnS B S1).2 0)) 0 0 + e_n 1) := by
    unfold moS
    simp only [hS1, if_pos hk]
  have hf0 : (fnS B S1).2 0 0 = e_n (t : Nat) := by rw [(fnS_k (B := B) (S := S1)).2.2 0 (by omega), s0, (wrS_k (sk := sk) (S := S) wb4).2.2.1 0 (by omega), hd]
  have h1 : moS B sk k S 0 0 = e_n ((t + 1 : Nat) : Nat) := by rw [h00, hd, e_n_succ]
  refine ⟨ws_day (ws_fnS wb ws1) ht hf0 h1 (fun j hj => ?_) ?_, h1⟩
  · rw [hmo]; simp (disch := first | exact hj | decide) only [e_u_na, e_u_ne]
  · rw [hmo]; simp (disch := decide) only [e_u_na]
theorem co_run {B : e_B} {M : Nat → Int32} {p t : Nat} (wb : WB B) (wm : WM B M) (hp : p < bPe B) (hd : M 0 = e_n (t : Nat)) : ∀ n, n ≤ 30 → t + n ≤ 60 → CoI p (foS B M n) (itr (moS B (e_n (p : Nat))) n 0 (begS M)) ∧ WS B (foS B M n) ∧ WS B (itr (moS B (e_n (p : Nat))) n 0 (begS M)) ∧ foS B M n 0 0 = e_n ((t + n : Nat) : Nat) ∧ itr (moS B (e_n (p : Nat))) n 0 (begS M) 0 0 = e_n ((t + n : Nat) : Nat) := by
  intro n
  induction n with
  | zero =>
    intro _ _
    have ws0 : WS B (begS M) := ⟨wm, 0, rfl, by have := cnt_le (bPe B) (fun p => decide (begS M 0 (4 + p) = e_n (-1))); have : bPe B ≤ 9 := wb.2.2.2.1; omega⟩
    have e0 : foS B M 0 = begS M := rfl
    have e0' : itr (moS B (e_n (p : Nat))) 0 0 (begS M) = begS M := rfl
    have h40 : begS M 4 0 = e_n ((0 : Nat) : Nat) := rfl
    have h00 : begS M 0 0 = e_n ((t + 0 : Nat) : Nat) := hd
    rw [e0, e0']
    exact ⟨Or.inl ⟨0, Nat.zero_le _, rfl, h40, h40, fun i hi => absurd hi (Nat.not_lt_zero i)⟩, ws0, ws0, h00, h00⟩
  | succ n ih =>
    intro hn htn
    obtain ⟨h1, h2, h3, h4, h5⟩ := ih (by omega) (by omega)
    have e1 : foS B M (n + 1) = moS B (e_n (-1)) n (foS B M n) := by unfold foS; rw [itr_succ, Nat.zero_add]
    rw [e1, itr_succ, Nat.zero_add]
    have w1 := ws_mo (sk := e_n (-1)) (k := n) wb h2 (by omega) (show t + n < 60 by omega) h4
    have w2 := ws_mo (sk := e_n (p : Nat)) (k := n) wb h3 (by omega) (show t + n < 60 by omega) h5
    exact ⟨co_mo wb hp (by omega) (show t + n < 60 by omega) h4 h5 h2 h3 h1, w1.1, w2.1, w1.2, w2.2⟩
/-- what is answered -/
theorem inst_v {p : Nat} {S S' : e_T} (H : CoI p S S') : ∃ k k' : Nat, k ≤ 9 ∧ k' ≤ 9 ∧ S 4 0 = e_n (k : Nat) ∧ S' 4 0 = e_n (k' : Nat) ∧ ((k = k' ∧ (∀ i, i < k → S 1 i = S' 1 i ∧ ¬ S 1 i = e_n (p : Nat))) ∨ ∃ o, o < k ∧ o ≤ k' ∧ S 1 o = e_n (p : Nat) ∧ (∀ i, i < o → S 1 i = S' 1 i ∧ ¬ S 1 i = e_n (p : Nat)) ∧ (o < k' → ¬ S' 1 o = e_n (p : Nat))) := by
  rcases H with ⟨k, k9, -, hk, hk', hnm⟩ | ⟨o, k, k', k9, k9', hok, hok', hk, hk', ho, hnm, hno⟩
  · exact ⟨k, k, k9, k9, hk, hk', Or.inl ⟨rfl, hnm⟩⟩
  · exact ⟨k, k', k9, k9', hk, hk', Or.inr ⟨o, hok, hok', ho, hnm, fun h => hno o h⟩⟩
theorem F141 {d : Nat} {c1 : Int32} {I : Nat → Nat → Int32} {z : e_Z} {B : e_B} (H : Rel I z B) {x : Int32} : Face d c1 I z 141 262 [.int x] := by
  have wb := rel_wb H
  have wm := rel_wm H
  have wb4 : bPe B ≤ 9 := wb.2.2.2.1
  have hpc := (rel_bc H).2.2.2.1
  obtain ⟨t, ht, hd⟩ := rel_day H
  by_cases hm : x < 0 ∨ ¬ x < e_n (bPe B : Nat)
  · refine throw_p H ?_ ?_
    · refine (e_E_11 (d := d + 9) (y := 141) rfl).trans ?_
      show e_L (d + 9) 141 0 [.ref 1, .int x, .null] [] (mk I z) = _
      rw [C141_0, hpc, if_pos hm]; rfl
    · intro J z2 HJ
      refine ⟨e_n 0, e_E_ret (d := d + 9) ?_⟩
      show e_L (d + 9) 262 0 [.ref 489, .int x, .null, .null] [] (mk J z2) = _
      rw [C262_0, c245n (RB_0 (rel_rb HJ)) K0 hm, e_rI_i, C262_10 (fun h => absurd (by decide) h), if_pos (by decide), e_u_same, if_neg (by decide)]
  obtain ⟨p, hp, rfl⟩ := in_n (by omega) hm
  have hli : I 51 1 = lm B (I 515) := (rel_mc H).2.1
  have i4 : (e_n 4 + e_n (p : Nat)).toNatClampNeg = 4 + p := ix (a := 4) (by omega)
  have g4 : InR (e_n 4 + e_n (p : Nat)) 34 := ixI (a := 4) (by omega) (by decide)
  by_cases hl0 : ¬ I 515 (4 + p) = e_n (-1)
  · have hl := hl0
    refine face_rd H (r := .inl (e_n (-1))) (I1 := I) (zs_rf z) rfl (e_E_ret (d := d + 9) ?_) (fun _ _ => rfl) ?_
    · show e_L (d + 9) 141 0 [.ref 1, .int (e_n (p : Nat)), .null] [] (mk I z) = _
      rw [C141_0, hpc, if_neg hm, hli, if_neg (fun h => hl ((lbit wb4 hp).mp h))]
    · intro J z2 HJ hq
      refine ⟨e_u J 489 0 (e_n 0), e_n (-1), e_E_ret (d := d + 9) ?_, RfE_0, K0, rfl⟩
      show e_L (d + 9) 262 0 [.ref 489, .int (e_n (p : Nat)), .null, .null] [] (mk J z2) = _
      have hK : e_u J 489 0 (e_n 0) 515 = I 515 := by rw [K515 (by decide), hq 515 (by decide)]
      rw [C262_0, c245y (RB_0 (rel_rb HJ)) K0 hm, e_rI_i, C262_10 (fun _ => g4), if_neg (by decide), i4, hK, if_neg hl, e_u_same, if_pos (by decide)]
  have hl : I 515 (4 + p) = e_n (-1) := Decidable.not_not.mp hl0
  have hco := (co_run (t := t) wb wm hp hd (min 30 (60 - t)) (by omega) (by omega)).1
  generalize hn : min 30 (60 - t) = n at hco
  have hn30 : n ≤ 30 := by omega
  generalize hS : foS B (I 515) n = S at hco
  generalize hS' : itr (moS B (e_n (p : Nat))) n 0 (begS (I 515)) = S' at hco
  obtain ⟨k, k', k9, k9', hk, hk', hcase⟩ := inst_v hco
  have hkn : (S 4 0).toNatClampNeg = k := by rw [hk]; exact e_n_nat' (by omega)
  have hkn' : (S' 4 0).toNatClampNeg = k' := by rw [hk']; exact e_n_nat' (by omega)
  obtain ⟨I1, a1, a2, a3, a4⟩ := lkC (d := d + 2) (z := z) H ht hd
  rw [hn, hS] at a2
  have hsc := bd_cases z
  have H1 : Rel I1 (zF z z.2.1.1) B := Rel_c rfl a4 H
  have h515 : I1 515 = I 515 := a4 515 (by unfold ScrC; omega)
  -- where the class finds the one
  have c19 : ∀ v, (∀ j, j < k → (S 1 j = e_n (p : Nat) → (∀ i, i < j → ¬ S 1 i = e_n (p : Nat)) → v = e_n (j : Nat))) → ((∀ j, j < k → ¬ S 1 j = e_n (p : Nat)) → v = e_n (-1)) → e_E (d + 9) 19 [.ref 470, .int (e_n (p : Nat))] (mk I1 (zF z z.2.1.1)) = some (.inl (some (.int v)), mk I1 (zF z z.2.1.1)) := by
    intro v h1 h2
    refine e_E_ret (d := d + 8) (C19_0.trans ?_)
    have loop : ∀ r i, i + r = k → (∀ j, j < i → ¬ S 1 j = e_n (p : Nat)) → e_L (d + 8) 19 2 [.ref 470, .int (e_n (p : Nat)), .int (e_n (i : Nat))] [] (mk I1 (zF z z.2.1.1)) = some (.inl (some (.int v)), mk I1 (zF z z.2.1.1)) := by
      intro r
      induction r with
      | zero =>
        intro i hi hj
        rw [C19_2, a2.2.2.2.1, hk, if_neg (by rw [e_n_ltN (by omega) (by omega)]; omega), h2 (fun j h => hj j (by omega))]
      | succ r ih =>
        intro i hi hj
        have h9 : i < 9 := by omega
        rw [C19_2, a2.2.2.2.1, hk, if_pos (by rw [e_n_ltN (by omega) (by omega)]; omega), rd_N (r := 476) (k := i) h9, a2.2.2.2.2.1 i (by rw [hkn]; omega)]
        by_cases hc : S 1 i = e_n (p : Nat)
        · rw [if_pos hc, h1 i (by omega) hc hj]
        · rw [if_neg hc, e_n_succ]
          exact ih (i + 1) (by omega) (fun j hj2 => by
            by_cases hji : j = i
            · rw [hji]; exact hc
            · exact hj j (by omega))
    exact loop k 0 (by omega) (fun j hj => by omega)
  -- the reference, up to its last loop
  have ref : ∀ (J : Nat → Nat → Int32) (z2 : e_Z), Rel J z2 B → (∀ s, 489 ≤ s → J s = I s) → ∃ I5, e_L (d + 9) 262 0 [.ref 489, .int (e_n (p : Nat)), .null, .null] [] (mk J z2) = e_L (d + 9) 262 67 [.ref 489, .int (e_n (p : Nat)), .int (e_n (k : Nat)), .int (e_n 0)] [] (mk I5 z2) ∧ RfE J I5 ∧ I5 489 0 = e_n 0 ∧ I5 489 62 = e_n (k' : Nat) ∧ (∀ i, i < k → I5 526 i = S 1 i) ∧ (∀ i, i < k' → I5 520 i = S' 1 i) := by
    intro J z2 HJ hq
    have hK : e_u J 489 0 (e_n 0) 515 = I 515 := by rw [K515 (by decide), hq 515 (by decide)]
    obtain ⟨I2, b1, b2, b3, b4, b5, b6, b7, b8, b9⟩ := lkR (d := d + 2) (z := z2) (v := e_n 0) HJ (hq 515 (by decide)) ht hd
    rw [hn, hS] at b2
    generalize hI3 : upR I2 526 (fun j => if j < ln 520 then I2 520 j else I2 526 j) = I3
    have o3 : ∀ r, r ≠ 526 → I3 r = I2 r := fun r hr => by rw [← hI3, upR_ne hr]
    have n3 : ∀ i, i < 9 → I3 526 i = I2 520 i := fun i hi => by rw [← hI3, upR_same, if_pos (show i < ln 520 from hi)]
    obtain ⟨I4, g1, g2, g3, g4', g5, g6⟩ := c238h (d := d + 2) (z := z2) (I := e_u I3 489 61 (e_n (p : Nat))) (M := I 515) (sk := e_n (p : Nat)) wb wm (RB_fr (fun k _ _ => by rw [e_u_ne (by omega), o3 489 (by decide)]) (fun q q1 q2 => by rw [e_u_na (by omega), o3 q (by omega)]) b7) (fun j _ => by rw [e_u_na (by decide), o3 515 (by decide), b6]) ht hd e_u_same
    rw [hn, hS'] at g2
    have o4 : ∀ r, r ≠ 489 → ¬ ScrR r → I4 r = I3 r := fun r h1 h2 => by rw [g5 r h1 (fun h => h2 (by unfold ScrR; omega)) (fun h => h2 (by unfold ScrR; omega)) (fun h => h2 (by unfold ScrR; omega)) (fun h => h2 (by unfold ScrR; omega)) (fun h => h2 (by unfold ScrR; omega)) (fun h => h2 (by unfold ScrR; omega)) (fun h => h2 (by unfold ScrR; omega)) (fun h => h2 (by unfold ScrR; omega)) (fun h => h2 (by unfold ScrR; omega)), e_u_na h1]
    refine ⟨e_u I4 489 61 (e_n (-1)), ?_, ⟨fun r h1 h2 => ?_, fun j hj => ?_⟩, ?_, ?_, fun i hi => ?_, fun i hi => ?_⟩
    · rw [C262_0, c245y (RB_0 (rel_rb HJ)) K0 hm, e_rI_i, C262_10 (fun _ => g4), if_neg (by decide), i4, hK, if_pos hl, b1, e_rV_n, C262_34, c180h (r := 520) (r2 := 526) rfl rfl (by decide) (by decide), e_rV_n, C262_46, hI3, g1, e_rV_n, C262_60, o3 489 (by decide), b2.2.1, hk]
    · rw [e_u_na h1, o4 r h1 h2, o3 r (fun h => h2 (by unfold ScrR; omega)), b4.1 r h1 h2]
    · by_cases h61 : j = 61
      · subst h61
        rw [e_u_same]; exact HJ.2.2.2.1.symm
      · rw [e_u_ne h61, g6 j (fun h => hj (by unfold ScrF; omega)) (fun h => hj (by unfold ScrF; omega)), e_u_ne h61, o3 489 (by decide), b4.2 j hj]
    · rw [e_u_ne (by decide), g6 0 (by decide) (by decide), e_u_ne (by decide), o3 489 (by decide), b5]
    · rw [e_u_ne (by decide), g2.2.1, hk']
    · rw [e_u_na (by decide), g5 526 (by decide) (by decide) (by decide) (by decide) (by decide) (by decide) (by decide) (by decide) (by decide) (by decide), e_u_na (by decide), n3 i (by omega), b2.2.2.2.1 i (by rw [hkn]; exact hi)]
    · rw [e_u_na (by decide), g2.2.2.2.1 i (by rw [hkn']; exact hi)]
  rcases hcase with ⟨hkk, hnm⟩ | ⟨o, hok, hok', ho, hnm, hno⟩
  · -- never written
    have e19 := c19 (e_n (-1)) (fun j hj h _ => absurd h (hnm j hj).2) (fun _ => rfl)
    refine face_rd H (r := .inl (e_n (-1))) (I1 := I1) (zs_F z) rfl (e_E_ret (d := d + 9) ?_) a4 ?_
    · show e_L (d + 9) 141 0 [.ref 1, .int (e_n (p : Nat)), .null] [] (mk I z) = _
      rw [C141_0, hpc, if_neg hm, hli, if_pos ((lbit wb4 hp).mpr hl), a1, e_rV_n, C141_28, e19, e_rI_i, C141_36, if_pos rfl]
    · intro J z2 HJ hq
      obtain ⟨I5, b1, b2, b3, b4, b5, b6⟩ := ref J z2 HJ hq
      refine ⟨I5, e_n (-1), e_E_ret (d := d + 9) (b1.trans ?_), b2, b3, rfl⟩
      have loop : ∀ r i, i + r = k → e_L (d + 9) 262 67 [.ref 489, .int (e_n (p : Nat)), .int (e_n (k : Nat)), .int (e_n (i : Nat))] [] (mk I5 z2) = some (.inl (some (.int (e_n (-1)))), mk I5 z2) := by
        intro r
        induction r with
        | zero =>
          intro i hi
          rw [C262_67 (fun h => absurd h (by rw [b4, e_n_ltN (by omega) (by omega)]; omega)) (fun h => absurd h (by rw [b4, e_n_ltN (by omega) (by omega)]; omega)), if_neg (by rw [b4, e_n_ltN (by omega) (by omega)]; omega)]
        | succ r ih =>
          intro i hi
          have gi : InR (e_n (i : Nat)) 9 := InR_n (by omega) (by omega) (by omega)
          rw [C262_67 (fun _ _ => gi) (fun _ _ => gi), if_pos (by rw [b4, e_n_ltN (by omega) (by omega)]; omega), if_pos (by rw [e_n_ltN (by omega) (by omega)]; omega), e_n_nat' (by omega), b5 i (by omega), b6 i (by omega), if_pos (hnm i (by omega)).1.symm, e_n_succ]
          exact ih (i + 1) (by omega)
      exact loop k 0 (by omega)
  · have e19 := c19 (e_n (o : Nat)) (fun j hj h hf => by
      rcases Nat.lt_trichotomy j o with h2 | h2 | h2
      · exact absurd h (hnm j h2).2
      · rw [h2]
      · exact absurd ho (hf o h2)) (fun h => absurd ho (h o hok))
    -- the class runs again
    obtain ⟨J1, x1, x2, x3, x4, x5, x6⟩ := c12h (d := d + 6) (I := I1) (z := zF z z.2.1.1) (s := z.2.1.1) wb wm (by rw [← h515]; exact rel_mc H1)
    obtain ⟨J2, y1, y2, y3, y4, y5, y6⟩ := ahead (I := I1) (J := e_u J1 470 2 (e_n (p : Nat))) (d := d + 3) (z := zF z z.2.1.1) (many := 30) (sk := e_n (p : Nat)) (cl := e_n (-1)) (sn := e_n (-1)) (sm := e_n (-1)) wb wm (rel_bc H1) (FC_fld (by decide) x2) (fun r hr => by rw [e_u_na (by omega)]; exact x6 r hr) (by omega) ht hd (fun i hi h => absurd h.symm (e_n_neg1 (by omega))) e_u_same (by rw [e_u_ne (by decide)]; exact x4 3 (by decide) (by decide)) (by rw [e_u_ne (by decide)]; exact x4 4 (by decide) (by decide)) (by rw [e_u_ne (by decide)]; exact x4 5 (by decide) (by decide))
    rw [rn_mo _ _ _ _ _ _ (by omega), hn, hS'] at y2
    have hzz : zF (zF z z.2.1.1) z.2.1.1 = zF (zF z z.2.1.1) (zF z z.2.1.1).2.1.1 := rfl
    have hv : (if e_n (o : Nat) < J2 470 9 then rd J2 476 (e_n (o : Nat)) else e_n (-1)) = (if o < k' then S' 1 o else e_n (-1)) := by
      rw [y2.2.2.2.1, hk']
      have h9 : o < 9 := by omega
      by_cases h : o < k'
      · rw [if_pos (by rw [e_n_ltN (by omega) (by omega)]; exact h), if_pos h, rd_N (r := 476) (k := o) h9, y2.2.2.2.2.1 o (by rw [hkn']; exact h)]
      · rw [if_neg (by rw [e_n_ltN (by omega) (by omega)]; exact h), if_neg h]
    refine face_rd H (r := .inl (if o < k' then S' 1 o else e_n (-1))) (I1 := J2) (z1 := zF (zF z z.2.1.1) z.2.1.1) ⟨rfl, rfl⟩ rfl (e_E_ret (d := d + 9) ?_) (CfE_tr (z' := zF z z.2.1.1) rfl a4 (fun r hr => y6 r (fun h => hr (by unfold ScrC; omega)) (fun h => hr (by unfold ScrC; omega)) (by unfold ScrC at hr; omega))) ?_
    · show e_L (d + 9) 141 0 [.ref 1, .int (e_n (p : Nat)), .null] [] (mk I z) = _
      rw [C141_0, hpc, if_neg hm, hli, if_pos ((lbit wb4 hp).mpr hl), a1, e_rV_n, C141_28, e19, e_rI_i, C141_36, if_neg (e_n_neg1 (by omega)), show (.ref (bd (zF z z.2.1.1).2.1.1) : Value) = .ref (bd z.2.1.1) from rfl, x1, e_rV_n, C141_62, show (e_n 30) = e_n ((30 : Nat) : Nat) from rfl, hzz, y1, e_rV_n, C141_79, hv]
    · intro J z2 HJ hq
      obtain ⟨I5, b1, b2, b3, b4, b5, b6⟩ := ref J z2 HJ hq
      refine ⟨I5, if o < k' then S' 1 o else e_n (-1), e_E_ret (d := d + 9) (b1.trans ?_), b2, b3, rfl⟩
      have loop : ∀ r i, i + r = o → e_L (d + 9) 262 67 [.ref 489, .int (e_n (p : Nat)), .int (e_n (k : Nat)), .int (e_n (i : Nat))] [] (mk I5 z2) = some (.inl (some (.int (if o < k' then S' 1 o else e_n (-1)))), mk I5 z2) := by
        intro r
        induction r with
        | zero =>
          intro i hi
          have : i = o := by omega
          subst this
          have gi : InR (e_n (i : Nat)) 9 := InR_n (by omega) (by omega) (by omega)
          rw [C262_67 (fun _ _ => gi) (fun _ _ => gi), b4]
          by_cases h : i < k'
          · rw [if_pos (by rw [e_n_ltN (by omega) (by omega)]; exact h), if_pos (by rw [e_n_ltN (by omega) (by omega)]; exact hok), e_n_nat' (by omega), b5 i hok, b6 i h, if_neg (by rw [ho]; exact hno h), if_pos h]
          · rw [if_neg (by rw [e_n_ltN (by omega) (by omega)]; exact h), if_neg h]
        | succ r ih =>
          intro i hi
          have gi : InR (e_n (i : Nat)) 9 := InR_n (by omega) (by omega) (by omega)
          rw [C262_67 (fun _ _ => gi) (fun _ _ => gi), if_pos (by rw [b4, e_n_ltN (by omega) (by omega)]; omega), if_pos (by rw [e_n_ltN (by omega) (by omega)]; omega), e_n_nat' (by omega), b5 i (by omega), b6 i (by omega), if_pos (hnm i (by omega)).1.symm, e_n_succ]
          exact ih (i + 1) (by omega)
      exact loop o 0 (by omega)
end S93
