/-! richest, worst, idle, stay: face to face -/
section S89
/-- the best so far -/
def bestS (f : Nat → Int32) (i : Nat) (q : Int32 × Int32) : Int32 × Int32 := (if q.2 < f i then e_n (i : Nat) else q.1, if q.2 < f i then f i else q.2)
theorem F145 {d : Nat} {c1 : Int32} {I : Nat → Nat → Int32} {z : e_Z} {B : e_B} (H : Rel I z B) : Face d c1 I z 145 266 [] := by
  have wb := rel_wb H
  have wb1 : bMa B ≤ 3 := wb.1
  obtain ⟨t, ht, hd⟩ := rel_day H
  obtain ⟨I1, a1, a2, a3, a4⟩ := lkC (d := d + 2) (z := z) H ht hd
  generalize hS : foS B (I 515) (min 30 (60 - t)) = S at a2 a3
  have hma : I1 (bd (zF z z.2.1.1).2.1.1) 2 = e_n (bMa B : Nat) := by
    rw [a4 _ (by have := bd_cases z; show ¬ ScrC z (bd z.2.1.1); unfold ScrC; omega)]; exact (rel_bc H).1
  refine face_rd H (r := .inl (itr (bestS (S 3)) (bMa B) 0 (e_n (-1), e_n 0)).1) (I1 := I1) (zs_F z) rfl (e_E_ret (d := d + 9) ?_) a4 ?_
  · show e_L (d + 9) 145 0 [.ref 1, .null, .null, .null] [] (mk I z) = _
    rw [C145_0, a1, e_rV_n, C145_4]
    refine (loopI (fun (i : Int32) (q : Int32 × Int32) => e_L (d + 9) 145 10 [.ref 1, .int q.1, .int q.2, .int i] [] (mk I1 (zF z z.2.1.1))) (bMa B) (by omega) (bestS (S 3)) (fun i q hi => ?_) (e_n (-1), e_n 0)).trans ?_
    · have h3 : i < 3 := by omega
      refine C145_10.trans ?_
      rw [if_pos (by rw [hma, e_n_ltN (by omega) (by omega)]; exact hi), rd_N (r := 478) (k := i) h3, a2.2.2.2.2.2.2.1 i hi]
      rfl
    · refine C145_10.trans ?_
      rw [if_neg (by rw [hma, e_n_ltN (by omega) (by omega)]; omega)]
  · intro J z2 HJ hq
    obtain ⟨I2, b1, b2, b3, b4, b5, b6, b7, b8, b9⟩ := lkR (d := d + 2) (z := z2) (v := e_n 0) HJ (hq 515 (by decide)) ht hd
    rw [hS] at b2
    refine ⟨I2, (itr (bestS (S 3)) (bMa B) 0 (e_n (-1), e_n 0)).1, e_E_ret (d := d + 9) ?_, b4, b5, rfl⟩
    show e_L (d + 9) 266 0 [.ref 489, .null, .null, .null] [] (mk J z2) = _
    have hma2 : I2 489 1 = e_n (bMa B : Nat) := b7.1
    rw [C266_0, b1, e_rV_n, C266_9]
    refine (loopI (fun (i : Int32) (q : Int32 × Int32) => e_L (d + 9) 266 15 [.ref 489, .int q.1, .int q.2, .int i] [] (mk I2 z2)) (bMa B) (by omega) (bestS (S 3)) (fun i q hi => ?_) (e_n (-1), e_n 0)).trans ?_
    · have h3 : i < 3 := by omega
      refine (C266_15 (fun _ => InR_n (by omega) (by omega) (by omega))).trans ?_
      rw [if_pos (by rw [hma2, e_n_ltN (by omega) (by omega)]; exact hi), e_n_nat' (by omega), b2.2.2.2.2.2.1 i h3]
      rfl
    · refine (C266_15 (fun h => absurd h (by rw [hma2, e_n_ltN (by omega) (by omega)]; omega))).trans ?_
      rw [if_neg (by rw [hma2, e_n_ltN (by omega) (by omega)]; omega)]
theorem best_n {f : Nat → Int32} {n : Nat} (hn : n < 1000) : (itr (bestS f) n 0 (e_n (-1), e_n 0)).1 = e_n (-1) ∨ ∃ k, k < n ∧ (itr (bestS f) n 0 (e_n (-1), e_n 0)).1 = e_n (k : Nat) := by
  refine itr_inv (fun i (q : Int32 × Int32) => q.1 = e_n (-1) ∨ ∃ k, k < i ∧ q.1 = e_n (k : Nat)) (n := n) (f := bestS f) (s := (e_n (-1), e_n 0)) (Or.inl rfl) ?_
  intro i q hi h
  unfold bestS
  by_cases hc : q.2 < f i
  · simp only [hc, if_true]; exact Or.inr ⟨i, by omega, rfl⟩
  · simp only [hc, if_false]
    rcases h with h | ⟨k, hk, h⟩
    · exact Or.inl h
    · exact Or.inr ⟨k, by omega, h⟩
/-- the reference's best carries the day -/
theorem best_day {f : Nat → Int32} {v : Int32} {n : Nat} (hn : n < 1000) : itr (fun i (q : Int32 × Int32) => (if q.2 < f i then v + e_n (i : Nat) else q.1, if q.2 < f i then f i else q.2)) n 0 (e_n (-1), e_n 0) = (if (itr (bestS f) n 0 (e_n (-1), e_n 0)).1 = e_n (-1) then e_n (-1) else v + (itr (bestS f) n 0 (e_n (-1), e_n 0)).1, (itr (bestS f) n 0 (e_n (-1), e_n 0)).2) := by
  induction n with
  | zero => rfl
  | succ n ih =>
    rw [itr_succ, itr_succ, ih (by omega), Nat.zero_add]
    unfold bestS
    generalize itr _ n 0 (e_n (-1), e_n 0) = q
    dsimp only
    by_cases hc : q.2 < f n
    · simp only [hc, if_true]
      rw [if_neg (e_n_neg1 (by omega))]
    · simp only [hc, if_false]
theorem F146 {d : Nat} {c1 : Int32} {I : Nat → Nat → Int32} {z : e_Z} {B : e_B} (H : Rel I z B) {x : Int32} : Face d c1 I z 146 264 [.int x] := by
  have wb := rel_wb H
  obtain ⟨t, ht, hd⟩ := rel_day H
  by_cases hm : x < 0 ∨ ¬ x < e_n 2
  · refine throw_p H ?_ ?_
    · refine (e_E_11 (d := d + 9) (y := 146) rfl).trans ?_
      show e_L (d + 9) 146 0 [.ref 1, .int x, .null, .null, .null] [] (mk I z) = _
      rw [C146_0, if_pos hm]; rfl
    · intro J z2 HJ
      refine ⟨e_n 0, e_E_ret (d := d + 9) ?_⟩
      show e_L (d + 9) 264 0 [.ref 489, .int x, .null, .null, .null] [] (mk J z2) = _
      rw [C264_0, c246n (x2 := e_n 1) (k := 1) rfl (by decide) K0 hm, e_rI_i, C264_11, if_pos (by decide)]
  have hm2 : ¬ (x < 0 ∨ ¬ x < e_n ((1 + 1 : Nat) : Nat)) := hm
  obtain ⟨k, hk, rfl⟩ := in_n (by decide) hm2
  obtain ⟨I1, a1, a2, a3, a4⟩ := lkC (d := d + 2) (z := z) H ht hd
  generalize hS : foS B (I 515) (min 30 (60 - t)) = S at a2 a3
  generalize hn : min 30 (60 - t) = n at a2
  have hn30 : n ≤ 30 := by omega
  have hday : I1 51 0 = I 515 0 := by rw [a4 51 (by have := bd_cases z; unfold ScrC; omega)]; exact (rel_mc H).1
  generalize hq0 : itr (bestS (S 6)) n 0 (e_n (-1), e_n 0) = q0
  refine face_rd H (r := .inl (if e_n (k : Nat) = 1 then q0.2 else if q0.1 = e_n (-1) then e_n (-1) else I 515 0 + q0.1)) (I1 := I1) (zs_F z) rfl (e_E_ret (d := d + 9) ?_) a4 ?_
  · show e_L (d + 9) 146 0 [.ref 1, .int (e_n (k : Nat)), .null, .null, .null] [] (mk I z) = _
    rw [C146_0, if_neg hm, a1, e_rV_n, C146_9]
    refine (loopI (fun (i : Int32) (q : Int32 × Int32) => e_L (d + 9) 146 16 [.ref 1, .int (e_n (k : Nat)), .int q.1, .int q.2, .int i] [] (mk I1 (zF z z.2.1.1))) n (by omega) (bestS (S 6)) (fun i q hi => ?_) (e_n (-1), e_n 0)).trans ?_
    · have h30 : i < 30 := by omega
      refine C146_16.trans ?_
      rw [if_pos (by rw [a2.2.1, e_n_ltN (by omega) (by omega)]; exact hi), rd_N (r := 479) (k := i) h30, (a2.2.2.2.2.2.2.2 i hi h30).1]
      rfl
    · refine C146_16.trans ?_
      rw [if_neg (by rw [a2.2.1, e_n_ltN (by omega) (by omega)]; omega), hday, hq0]
      rfl
  · intro J z2 HJ hq
    obtain ⟨I2, b1, b2, b3, b4, b5, b6, b7, b8, b9⟩ := lkR (d := d + 2) (z := z2) (v := e_n 0) HJ (hq 515 (by decide)) ht hd
    rw [hS, hn] at b2
    have hv : v236 I2 = e_n (n : Nat) := by rw [v236_n ht (by rw [b6]; exact hd), hn]
    refine ⟨I2, if e_n (k : Nat) = 1 then q0.2 else if q0.1 = e_n (-1) then e_n (-1) else I 515 0 + q0.1, e_E_ret (d := d + 9) ?_, b4, b5, rfl⟩
    show e_L (d + 9) 264 0 [.ref 489, .int (e_n (k : Nat)), .null, .null, .null] [] (mk J z2) = _
    rw [C264_0, c246y (x2 := e_n 1) (k := 1) rfl (by decide) K0 hm2, e_rI_i, C264_11, if_neg (by decide), b1, e_rV_n, C264_20]
    refine (loopI (fun (i : Int32) (q : Int32 × Int32) => e_L (d + 9) 264 27 [.ref 489, .int (e_n (k : Nat)), .int q.1, .int q.2, .int i] [] (mk I2 z2)) n (by omega) (fun i (q : Int32 × Int32) => (if q.2 < S 6 i then I 515 0 + e_n (i : Nat) else q.1, if q.2 < S 6 i then S 6 i else q.2)) (fun i q hi => ?_) (e_n (-1), e_n 0)).trans ?_
    · refine (C264_27 (fun _ => InR_n (by omega) (by omega) (by omega))).trans ?_
      rw [if_pos (by rw [hv, e_n_ltN (by omega) (by omega)]; exact hi), e_n_nat' (by omega), (b2.2.2.2.2.2.2 i hi).2.1, b6]
    · refine (C264_27 (fun h => absurd h (by rw [hv, e_n_ltN (by omega) (by omega)]; omega))).trans ?_
      rw [if_neg (by rw [hv, e_n_ltN (by omega) (by omega)]; omega), best_day (by omega), hq0]
      match k, hk with
      | 0, _ => rw [if_pos (by decide), if_neg (show ¬ e_n ((0 : Nat) : Nat) = 1 by decide)]
      | 1, _ => rw [if_neg (by decide), if_pos (show e_n ((1 : Nat) : Nat) = 1 by decide)]
/-- the first that holds -/
def fi (c : Nat → Bool) : Nat → Nat → Int32
  | 0, _ => e_n (-1)
  | k + 1, i => if c i then e_n (i : Nat) else fi c k (i + 1)
theorem fi_cg {c c' : Nat → Bool} : ∀ k i, (∀ j, i ≤ j → j < i + k → c j = c' j) → fi c k i = fi c' k i
  | 0, _, _ => rfl
  | k + 1, i, h => by
    unfold fi
    rw [h i (Nat.le_refl _) (by omega), fi_cg k (i + 1) (fun j h1 h2 => h j (by omega) (by omega))]
theorem fi_no {c : Nat → Bool} : ∀ k i, (∀ j, i ≤ j → j < i + k → c j = false) → fi c k i = e_n (-1)
  | 0, _, _ => rfl
  | k + 1, i, h => by
    unfold fi
    rw [h i (Nat.le_refl _) (by omega)]
    exact fi_no k (i + 1) (fun j h1 h2 => h j (by omega) (by omega))
/-- the idle morning, as the class keeps it -/
theorem idle_f {B : e_B} {M : Nat → Int32} {t : Nat} (wb4 : bPe B ≤ 9) (ht : t ≤ 60) (hd : M 0 = e_n (t : Nat)) : ∀ n, n ≤ 30 → foS B M n 0 0 = e_n ((t + n : Nat) : Nat) ∧ ((foS B M n 4 2 = e_n (-1) ∧ ∀ i, i < n → ¬ foS B M n 5 i = 0) ∨ ∃ k, k < n ∧ foS B M n 5 k = 0 ∧ (∀ i, i < k → ¬ foS B M n 5 i = 0) ∧ foS B M n 4 2 = e_n ((t + k : Nat) : Nat)) := by
  intro n
  induction n with
  | zero =>
    intro _
    refine ⟨hd, Or.inl ⟨rfl, fun i hi => by omega⟩⟩
  | succ n ih =>
    intro hn
    obtain ⟨h0, h1⟩ := ih (by omega)
    have hs : foS B M (n + 1) = moS B (e_n (-1)) n (foS B M n) := by
      unfold foS; rw [itr_succ, Nat.zero_add]
    generalize foS B M n = S at h0 h1 hs
    obtain ⟨k5, -, -, k4, k0, -⟩ := moS_k (sk := e_n (-1)) (k := n) (S := S) wb4 (by omega)
    rw [hs]
    refine ⟨by rw [k0, h0, e_n_succ]; rfl, ?_⟩
    rw [k4]
    rcases h1 with ⟨h2, h3⟩ | ⟨k, hk, h2, h3, h4⟩
    · by_cases hw : (wrS B (e_n (-1)) S).1 = e_n 0
      · refine Or.inr ⟨n, by omega, ?_, fun i hi => ?_, ?_⟩
        · rw [k5, if_pos rfl, hw]; rfl
        · rw [k5, if_neg (by omega)]; exact h3 i hi
        · rw [if_pos ⟨hw, h2⟩, h0]
      · refine Or.inl ⟨by rw [if_neg (fun h => hw h.1)]; exact h2, fun i hi => ?_⟩
        rw [k5]
        by_cases hin : i = n
        · rw [if_pos hin]; exact hw
        · rw [if_neg hin]; exact h3 i (by omega)
    · refine Or.inr ⟨k, by omega, ?_, fun i hi => ?_, ?_⟩
      · rw [k5, if_neg (by omega)]; exact h2
      · rw [k5, if_neg (by omega)]; exact h3 i hi
      · rw [if_neg (fun h => e_n_neg1 (by omega) (h4.symm.trans h.2))]; exact h4
theorem F147 {d : Nat} {c1 : Int32} {I : Nat → Nat → Int32} {z : e_Z} {B : e_B} (H : Rel I z B) : Face d c1 I z 147 265 [] := by
  have wb := rel_wb H
  have wb4 : bPe B ≤ 9 := wb.2.2.2.1
  obtain ⟨t, ht, hd⟩ := rel_day H
  obtain ⟨I1, a1, a2, a3, a4⟩ := lkC (d := d + 2) (z := z) H ht hd
  have hid := (idle_f (M := I 515) wb4 ht hd (min 30 (60 - t)) (by omega)).2
  generalize hS : foS B (I 515) (min 30 (60 - t)) = S at a2 a3 hid
  generalize hn : min 30 (60 - t) = n at a2 hid
  have hn30 : n ≤ 30 := by omega
  refine face_rd H (r := .inl (S 4 2)) (I1 := I1) (zs_F z) rfl (e_E_ret (d := d + 9) ?_) a4 ?_
  · show e_L (d + 9) 147 0 [.ref 1] [] (mk I z) = _
    rw [C147_0, a1, e_rV_n, C147_4, a2.2.2.1]
  · intro J z2 HJ hq
    obtain ⟨I2, b1, b2, b3, b4, b5, b6, b7, b8, b9⟩ := lkR (d := d + 2) (z := z2) (v := e_n 0) HJ (hq 515 (by decide)) ht hd
    rw [hS, hn] at b2
    have hv : v236 I2 = e_n (n : Nat) := by rw [v236_n ht (by rw [b6]; exact hd), hn]
    refine ⟨I2, S 4 2, e_E_ret (d := d + 9) ?_, b4, b5, rfl⟩
    show e_L (d + 9) 265 0 [.ref 489, .null] [] (mk J z2) = _
    rw [C265_0, b1, e_rV_n, C265_9]
    have loop : ∀ k i, i + k = n → (∀ j, j < i → ¬ S 5 j = 0) → e_L (d + 9) 265 11 [.ref 489, .int (e_n (i : Nat))] [] (mk I2 z2) = some (.inl (some (.int (S 4 2))), mk I2 z2) := by
      intro k
      induction k with
      | zero =>
        intro i hi hj
        have : i = n := by omega
        subst this
        rw [C265_11 (fun h => absurd h (by rw [hv, e_n_ltN (by omega) (by omega)]; omega)), if_neg (by rw [hv, e_n_ltN (by omega) (by omega)]; omega)]
        rcases hid with ⟨h, -⟩ | ⟨k, hk, h2, -⟩
        · rw [h]
        · exact absurd h2 (hj k hk)
      | succ k ih =>
        intro i hi hj
        have h30 : i < 30 := by omega
        rw [C265_11 (fun _ => InR_n (by omega) (by omega) (by omega)), if_pos (by rw [hv, e_n_ltN (by omega) (by omega)]; omega), e_n_nat' (by omega), (b2.2.2.2.2.2.2 i (by omega)).1]
        by_cases h0 : S 5 i = 0
        · rw [if_pos h0]
          rcases hid with ⟨-, h⟩ | ⟨k', hk, h2, h3, h4⟩
          · exact absurd h0 (h i (by omega))
          · have : i = k' := by
              rcases Nat.lt_trichotomy i k' with h | h | h
              · exact absurd h0 (h3 i h)
              · exact h
              · exact absurd h2 (hj k' h)
            rw [this, h4, b6, hd, e_n_add]
            congr 4
        · rw [if_neg h0, e_n_succ]
          exact ih (i + 1) (by omega) (fun j hj2 => by
            by_cases hji : j = i
            · rw [hji]; exact h0
            · exact hj j (by omega))
    exact loop n 0 (by omega) (fun j hj => by omega)
/-- the day of writing, as the class reckons it -/
theorem c136h {d t p : Nat} {I : Nat → Nat → Int32} {z : e_Z} {B : e_B} (H : Rel I z B) (ht : t ≤ 60) (hd : I 515 0 = e_n (t : Nat)) (hp : p < bPe B) : ∃ I1 z1, e_E (d + 7) 136 [.ref 1, .int (e_n (p : Nat))] (mk I z) = some (.inl (some (.int (foS B (I 515) (min 30 (60 - t)) 0 (4 + p)))), mk I1 z1) ∧ CfE z I I1 ∧ zs z z1 ∧ z1.2.1.1 = z.2.1.1 := by
  have wb := rel_wb H
  have wb4 : bPe B ≤ 9 := wb.2.2.2.1
  have h9 : p < 9 := by omega
  have hli : I 51 1 = lm B (I 515) := (rel_mc H).2.1
  by_cases hl : I 515 (4 + p) = e_n (-1)
  · obtain ⟨I1, a1, a2, a3, a4, a5, a6⟩ := c12h (d := d + 3) (z := z) (s := z.2.1.1) wb (rel_wm H) (rel_mc H)
    obtain ⟨I2, b1, b2, b3, b4, b5, b6⟩ := ahead (d := d) (z := z) (many := 30) (sk := e_n (-1)) (cl := e_n (-1)) (sn := e_n (-1)) (sm := e_n (-1)) wb (rel_wm H) (rel_bc H) a2 a6 (by omega) ht hd (fun i hi h => absurd h.symm (e_n_neg1 (by omega))) (a4 2 (by decide) (by decide)) (a4 3 (by decide) (by decide)) (a4 4 (by decide) (by decide)) (a4 5 (by decide) (by decide))
    rw [rn_mo _ _ _ _ _ _ (by omega)] at b2
    refine ⟨I2, zF z z.2.1.1, e_E_ret (d := d + 6) ?_, fun r hr => b6 r (fun h => hr (by unfold ScrC; omega)) (fun h => hr (by unfold ScrC; omega)) (by unfold ScrC at hr; omega), zs_F z, rfl⟩
    show e_L (d + 6) 136 0 [.ref 1, .int (e_n (p : Nat))] [] (mk I z) = _
    rw [C136_0, hli, if_pos ((lbit wb4 hp).mpr hl), a1, e_rV_n, C136_50, show (e_n 30) = e_n ((30 : Nat) : Nat) from rfl, b1, e_rV_n, C136_59, rd_N (r := 472) (k := p) h9]
    exact congrArg (fun v => some (Sum.inl (some (Value.int v)), mk I2 (zF z z.2.1.1))) (b2.1.2.2.2.2.2.1 p hp).1
  · refine ⟨I, z, e_E_ret (d := d + 6) ?_, fun _ _ => rfl, zs_rf z, rfl⟩
    show e_L (d + 6) 136 0 [.ref 1, .int (e_n (p : Nat))] [] (mk I z) = _
    have := (itr_since (sk := e_n (-1)) wb4 h9 (min 30 (60 - t)) 0 (begS (I 515)) (by omega) hl).1
    rw [C136_0, hli, if_neg (fun h => hl ((lbit wb4 hp).mp h)), rd_N (r := 52) (k := p) h9, show foS B (I 515) (min 30 (60 - t)) 0 (4 + p) = I 515 (4 + p) from this]
    exact congrArg (fun v => some (Sum.inl (some (Value.int v)), mk I z)) ((rel_mc H).2.2.2.2.2.1 p hp).1
end S89
