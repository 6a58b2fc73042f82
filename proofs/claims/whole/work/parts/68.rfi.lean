section S68
theorem c233h {d r T : Nat} {I : Nat → Nat → Int32} {z : e_Z} {B : e_B} {S : e_T} {sk : Int32} (hr : R2 r) (wb : WB B) (hB : RB I B) (hF : RF I r S T) (ws : WS B S) (hs : I 489 61 = sk) :
    ∃ I', e_E (d + 5) 233 [.ref 489, .ref r] (mk I z) = some (.inl (some (.int (wrS B sk S).1)), mk I' z) ∧ RF I' r (wrS B sk S).2 T ∧ WS B (wrS B sk S).2 ∧ keepW S (wrS B sk S).2 ∧ (∀ s, s ≠ r → s ≠ 489 → s ≠ 517 → s ≠ 518 → s ≠ 520 → I' s = I s) ∧ (∀ k, k ≠ 62 → I' 489 k = I 489 k) := by
  have wb1 : bMa B ≤ 3 := wb.1
  have hr3 : r ≠ 489 := by rcases hr with rfl | rfl <;> decide
  by_cases ho : S 0 3 = e_n 1
  · obtain ⟨I1, u1, h1, h2, h3, h4, h5, h6⟩ := rw_loop (d := d) (z := z) (T := T) (sk := sk) hr wb (bMa B) 0 (e_n 0, S) I .null (by omega) hB hF ws hs ho
    have hw : wrS B sk S = itr (wr1 B sk) (bMa B) 0 (e_n 0, S) := by unfold wrS; rw [if_pos ho]
    rw [hw]
    refine ⟨I1, e_E_ret (d := d + 4) ((C233_0 hr).trans (h1.trans ?_)), h2, h3, h4, h5, h6⟩
    have hma : I1 489 1 = e_n (bMa B : Nat) := by rw [h6 1 (by decide)]; exact hB.1
    rw [C233_4 hr, hma, if_neg (by rw [e_n_ltN (by omega) (by omega)]; omega)]
  · have hw : wrS B sk S = (e_n 0, S) := by unfold wrS; rw [if_neg ho]
    rw [hw]
    refine ⟨I, e_E_ret (d := d + 4) ((C233_0 hr).trans ?_), hF, ws, ⟨rfl, rfl, fun _ _ _ _ => rfl, fun _ _ => rfl⟩, fun _ _ _ _ _ _ => rfl, fun _ _ => rfl⟩
    have h3 : ¬ I r 3 = e_n 1 := by rw [hF.1 3 (by decide)]; exact ho
    rw [C233_4 hr, if_neg h3]
    split <;> rfl
theorem v231_f {I : Nat → Nat → Int32} {r p : Nat} {B : e_B} {M : Nat → Int32} (wb : WB B) (wm : WM B M) (hB : RB I B) (hM : ∀ j, j < 34 → I r j = M j) (hp : p < bPe B) : v231 I r (e_n (p : Nat)) = tf (fndC B M p) := by
  have wb4 : bPe B ≤ 9 := wb.2.2.2.1
  have wb2 : bPl B ≤ 8 := wb.2.1
  obtain ⟨a, ha, hat⟩ := wm.2.1 p hp
  unfold v231 fndC
  rw [show (e_n 4 + e_n (p : Nat)).toNatClampNeg = 4 + p from ix (a := 4) (by omega), show (e_n 22 + e_n (p : Nat)).toNatClampNeg = 22 + p from ix (a := 22) (by omega)]
  simp only [hM (4 + p) (by omega), hM (22 + p) (by omega), hM 1 (by omega), hM 0 (by omega), shr_bit _ (show p < 32 by omega), hat, e_n_nat' (show a < 2147483648 by omega), hB.2.2.2.2.2.2.2.1 a ha]
theorem c231h {d r p : Nat} {I : Nat → Nat → Int32} {z : e_Z} {B : e_B} {M : Nat → Int32} (hr : R2 r) (wb : WB B) (wm : WM B M) (hB : RB I B) (hM : ∀ j, j < 34 → I r j = M j) (hp : p < bPe B) : e_E (d + 2) 231 [.ref 489, .ref r, .int (e_n (p : Nat))] (mk I z) = some (.inl (some (.int (tf (fndC B M p)))), mk I z) := by
  have wb4 : bPe B ≤ 9 := wb.2.2.2.1
  have wb2 : bPl B ≤ 8 := wb.2.1
  obtain ⟨a, ha, hat⟩ := wm.2.1 p hp
  rw [c231 hr (ixI (a := 4) (by omega) (by decide)) (fun _ _ => ixI (a := 22) (by omega) (by decide)) (fun _ _ => by rw [show (e_n 22 + e_n (p : Nat)).toNatClampNeg = 22 + p from ix (a := 22) (by omega), hM _ (by omega), hat]; exact InR_n (by omega) (by omega) (by omega)), v231_f wb wm hB hM hp]
theorem v229_s {I : Nat → Nat → Int32} {r p : Nat} {B : e_B} {M : Nat → Int32} (wb : WB B) (hB : RB I B) (hM : ∀ j, j < 34 → I r j = M j) (hp : p < bPe B) : v229 I r (e_n (p : Nat)) = saleS B M p := by
  have wb4 : bPe B ≤ 9 := wb.2.2.2.1
  unfold v229 saleS
  rw [e_n_nat' (by omega), hM 2 (by decide), (hB.2.2.2.2.2.2.2.2.2.1 p hp).1]
/-- one is found -/
theorem c230h {d r p T : Nat} {I : Nat → Nat → Int32} {z : e_Z} {B : e_B} {S : e_T} (hr : R2 r) (wb : WB B) (wm : WM B (S 0)) (hB : RB I B) (hF : RF I r S T) (hp : p < bPe B) :
    ∃ I', e_E (d + 3) 230 [.ref 489, .ref r, .int (e_n (p : Nat))] (mk I z) = some (.inl none, mk I' z) ∧ RF I' r (dieS B p S) T ∧ (∀ s, s ≠ r → s ≠ 489 → s ≠ 519 → I' s = I s) ∧ (∀ k, k ≠ 60 → I' 489 k = I 489 k) := by
  have wb4 : bPe B ≤ 9 := wb.2.2.2.1
  have wb1 : bMa B ≤ 3 := wb.1
  have hr2 : r ≠ 489 ∧ r ≠ 519 ∧ r ≠ 520 ∧ r ≠ 521 ∧ r ≠ 524 ∧ r ≠ 523 ∧ r ≠ 522 := by rcases hr with rfl | rfl <;> decide
  obtain ⟨r1, r2, r3, r4, r5, r6, r7⟩ := hr2
  have n1 := Ne.symm r1
  have n2 := Ne.symm r2
  have n3 := Ne.symm r3
  have n4 := Ne.symm r4
  have n5 := Ne.symm r5
  have n6 := Ne.symm r6
  have n7 := Ne.symm r7
  obtain ⟨f1, f2, f3, f4, f5, f6, f7⟩ := id hF
  have hv := v229_s wb hB f1 hp
  have i13 : (e_n 13 + e_n (p : Nat)).toNatClampNeg = 13 + p := ix (a := 13) (by omega)
  have hby : I r (13 + p) = S 0 (13 + p) := f1 _ (by omega)
  have gp : InR (e_n (p : Nat)) 9 := InR_n (by omega) (by omega) (by omega)
  rcases (show S 0 (13 + p) < 0 ∨ ∃ m : Nat, m < bMa B ∧ S 0 (13 + p) = e_n (m : Nat) from by
      rcases wm.2.2.1 p hp with h | h | h
      · rw [h]; exact Or.inl (by decide)
      · rw [h]; exact Or.inl (by decide)
      · exact Or.inr h) with hneg | ⟨m, hm, hbm⟩
  · have hlt : I r (e_n 13 + e_n (p : Nat)).toNatClampNeg < 0 := by rw [i13, hby]; exact hneg
    have hdie : dieS B p S = e_u (e_u (e_u S 0 1 (S 0 1 ||| e_shl (e_n 1) (e_n (p : Nat)))) 0 2 (S 0 2 + e_n 1)) 4 1 (S 4 1 + tf (saleS B (S 0) p = 0)) := by unfold dieS; rw [if_pos hneg]
    rw [c230 hr gp (ixI (a := 13) (by omega) (by decide)) (fun _ h => absurd hlt h) (fun _ h => absurd hlt h) (fun _ h => absurd hlt h) (fun _ h => absurd hlt h), if_pos hlt, hv]
    simp (disch := first | decide | assumption) only [e_u_na, f1 1 (by decide), f1 2 (by decide), f3]
    refine ⟨_, rfl, ⟨?_, ?_, ?_, ?_, ?_, ?_, ?_⟩, ?_, ?_⟩
    · intro j hj
      rw [hdie, e_u_na r1, e_u_na (show (0 : Nat) ≠ 4 by decide), e_u_at, e_u_at, e_u_at, e_u_at, f1 j hj]
    · rw [hdie, e_u_ne (show (62 : Nat) ≠ 60 by decide), e_u_ne (show (0 : Nat) ≠ 1 by decide)]
      simp (disch := first | decide | assumption) only [e_u_na]; exact f2
    · rw [hdie, e_u_same, e_u_same]
    · rw [hdie, e_u_ne (show (0 : Nat) ≠ 1 by decide)]
      simp (disch := first | decide | assumption) only [e_u_na]; exact f4
    · rw [hdie]; simp (disch := first | decide | assumption) only [e_u_na]; exact f5
    · rw [hdie]; simp (disch := first | decide | assumption) only [e_u_na]; exact f6
    · rw [hdie]; simp (disch := first | decide | assumption) only [e_u_na]; exact f7
    · intro s s1 s2 s3
      simp (disch := first | decide | assumption) only [e_u_na]
    · intro j hj
      rw [e_u_ne hj]; simp (disch := first | decide | assumption) only [e_u_na]
  · have hmn : ¬ S 0 (13 + p) < 0 := by rw [hbm, show (0 : Int32) = e_n ((0 : Nat) : Nat) from rfl, e_n_ltN (by omega) (by omega)]; omega
    have hnl : ¬ I r (e_n 13 + e_n (p : Nat)).toNatClampNeg < 0 := by rw [i13, hby]; exact hmn
    have hbe : I r (e_n 13 + e_n (p : Nat)).toNatClampNeg = e_n (m : Nat) := by rw [i13, hby, hbm]
    have hmk : (e_n (m : Nat)).toNatClampNeg = m := e_n_nat' (by omega)
    have i31 : (e_n 31 + e_n (m : Nat)).toNatClampNeg = 31 + m := ix (a := 31) (by omega)
    have hdie : dieS B p S = e_u (e_u (e_u (e_u (e_u S 0 1 (S 0 1 ||| e_shl (e_n 1) (e_n (p : Nat)))) 0 2 (S 0 2 + e_n 1)) 4 1 (S 4 1 + tf (saleS B (S 0) p = 0))) 3 m (S 3 m + saleS B (S 0) p)) 0 (31 + m) (if S 0 (31 + m) < saleS B (S 0) p then e_n 0 else S 0 (31 + m) - saleS B (S 0) p) := by
      unfold dieS; rw [if_neg hmn, hbm, hmk]
    rw [c230 hr gp (ixI (a := 13) (by omega) (by decide)) (fun _ _ => by rw [hbe]; exact InR_n (by omega) (by omega) (by omega)) (fun _ _ => by rw [hbe]; exact ixI (a := 31) (by omega) (by decide)) (fun _ _ => by rw [hbe]; exact InR_n (by omega) (by omega) (by omega)) (fun _ _ => by rw [hbe]; exact ixI (a := 31) (by omega) (by decide)), if_neg hnl, hv, hbe, hmk, i31]
    simp (disch := first | decide | assumption | omega) only [e_u_na, e_u_ne, f1 1 (by decide), f1 2 (by decide), f3, f6 m (by omega), f1 (31 + m) (by omega)]
    generalize (if S 0 (31 + m) < saleS B (S 0) p then e_n 0 else S 0 (31 + m) - saleS B (S 0) p) = nd at hdie ⊢
    refine ⟨_, rfl, ⟨?_, ?_, ?_, ?_, ?_, ?_, ?_⟩, ?_, ?_⟩
    · intro j hj
      rw [hdie, e_u_at, e_u_na r2, e_u_na r1, e_u_at, e_u_at, e_u_at, e_u_na (show (0 : Nat) ≠ 3 by decide), e_u_na (show (0 : Nat) ≠ 4 by decide), e_u_at, e_u_at, f1 j hj]
    · rw [hdie]
      simp (disch := first | decide | assumption) only [e_u_na, e_u_ne]; exact f2
    · rw [hdie]
      simp (disch := first | decide | assumption) only [e_u_na, e_u_ne, e_u_same]
    · rw [hdie]
      simp (disch := first | decide | assumption) only [e_u_na, e_u_ne]; exact f4
    · rw [hdie]; simp (disch := first | decide | assumption) only [e_u_na]; exact f5
    · intro j hj
      rw [hdie]; simp (disch := first | decide | assumption) only [e_u_na, e_u_at]; rw [f6 j hj]
    · rw [hdie]; simp (disch := first | decide | assumption) only [e_u_na]; exact f7
    · intro s s1 s2 s3
      simp (disch := first | decide | assumption) only [e_u_na]
    · intro j hj
      simp (disch := first | decide | assumption) only [e_u_na, e_u_ne]
/-- the reference searches -/
theorem rf_loop {d r T : Nat} {z : e_Z} {B : e_B} (hr : R2 r) (wb : WB B) : ∀ (k p : Nat) (q : Int32 × e_T) (I : Nat → Nat → Int32), p + k = bPe B → RB I B → RF I r q.2 T → WS B q.2 →
    ∃ I', e_L (d + 3) 234 4 [.ref 489, .ref r, .int q.1, .int (e_n (p : Nat))] [] (mk I z) = e_L (d + 3) 234 4 [.ref 489, .ref r, .int (itr (fn1 B) k p q).1, .int (e_n (bPe B : Nat))] [] (mk I' z) ∧ RF I' r (itr (fn1 B) k p q).2 T ∧ WS B (itr (fn1 B) k p q).2 ∧ keepF q.2 (itr (fn1 B) k p q).2 ∧ (∀ s, s ≠ r → s ≠ 489 → s ≠ 519 → s ≠ 521 → I' s = I s) ∧ (∀ k, k ≠ 60 → I' 489 k = I 489 k) := by
  have wb4 : bPe B ≤ 9 := wb.2.2.2.1
  have hr2 : r ≠ 489 ∧ r ≠ 519 ∧ r ≠ 521 := by rcases hr with rfl | rfl <;> decide
  have hr10 : ¬ (490 ≤ r ∧ r ≤ 499) := by rcases hr with rfl | rfl <;> decide
  have n4 := Ne.symm hr2.2.2
  intro k
  induction k with
  | zero =>
    intro p q I hp hB hF ws
    exact ⟨I, by rw [show p = bPe B by omega]; rfl, hF, ws, keepF_rf _, fun _ _ _ _ _ => rfl, fun _ _ => rfl⟩
  | succ k ih =>
    intro p q I hp hB hF ws
    have hlt : e_n (p : Nat) < e_n (bPe B : Nat) := by rw [e_n_ltN (by omega) (by omega)]; omega
    have hpe : I 489 4 = e_n (bPe B : Nat) := hB.2.2.2.1
    obtain ⟨w1, w2, w3, w4, w5⟩ := ws_fn1 (n := q.1) wb ws (show p < bPe B by omega)
    have hstep : ∃ I1, e_L (d + 3) 234 4 [.ref 489, .ref r, .int q.1, .int (e_n (p : Nat))] [] (mk I z) = e_L (d + 3) 234 4 [.ref 489, .ref r, .int (fn1 B p q).1, .int (e_n ((p + 1 : Nat) : Nat))] [] (mk I1 z) ∧ RF I1 r (fn1 B p q).2 T ∧ (∀ s, s ≠ r → s ≠ 489 → s ≠ 519 → s ≠ 521 → I1 s = I s) ∧ (∀ k, k ≠ 60 → I1 489 k = I 489 k) := by
      rw [C234_4 hr, hpe, if_pos hlt, c231h hr wb ws.1 hB hF.1 (show p < bPe B by omega), e_rI_i, C234_18 hr]
      by_cases hfc : fndC B (q.2 0) p
      · have hfn : fn1 B p q = (q.1 + e_n 1, e_u (dieS B p q.2) 2 p (q.2 0 0)) := by unfold fn1; rw [if_pos hfc]
        obtain ⟨I1, h1, h2, h3, h4⟩ := c230h (d := d) (z := z) hr wb ws.1 hB hF (show p < bPe B by omega)
        have hd0 : dieS B p q.2 0 0 = q.2 0 0 := (wm_die wb ws.1 (show p < bPe B by omega) (by simpa using hfc.2.1)).2.1
        obtain ⟨f1, f2, f3, f4, f5, f6, f7⟩ := h2
        have hy0 : ¬ tf (fndC B (q.2 0) p) = 0 := by unfold tf; rw [if_pos hfc]; decide
        rw [if_neg hy0, h1, e_rV_n, C234_30 hr (InR_n (by omega) (by omega) (by omega)), e_n_nat' (show p < 2147483648 by omega), f1 0 (by decide), hd0, e_n_succ, hfn]
        dsimp only
        refine ⟨_, rfl, ⟨?_, ?_, ?_, ?_, ?_, ?_, ?_⟩, ?_, ?_⟩
        · rw [e_u_na hr2.2.2, e_u_na (show (0 : Nat) ≠ 2 by decide)]; exact f1
        · rw [e_u_na (by decide), e_u_na (by decide)]; exact f2
        · rw [e_u_na (by decide), e_u_na (by decide)]; exact f3
        · rw [e_u_na (by decide), e_u_na (by decide), e_u_na (by decide)]; exact f4
        · intro j hj; rw [e_u_at, e_u_at, f5 j hj]
        · rw [e_u_na (by decide), e_u_na (by decide)]; exact f6
        · rw [e_u_na (by decide), e_u_na (by decide), e_u_na (by decide), e_u_na (by decide), e_u_na (by decide), e_u_na (by decide)]; exact f7
        · intro s s1 s2 s3 s4; rw [e_u_na s4]; exact h3 s s1 s2 s3
        · intro j hj; rw [e_u_na (by decide)]; exact h4 j hj
      · have hfn : fn1 B p q = q := by unfold fn1; rw [if_neg hfc]
        have hy0 : tf (fndC B (q.2 0) p) = 0 := by unfold tf; rw [if_neg hfc]; rfl
        rw [if_pos hy0, hfn, e_n_succ]
        exact ⟨I, rfl, hF, fun _ _ _ _ _ => rfl, fun _ _ => rfl⟩
    obtain ⟨I1, e1, e2, e3, e4⟩ := hstep
    obtain ⟨I2, g1, g2, g3, g4, g5, g6⟩ := ih (p + 1) (fn1 B p q) I1 (by omega) (RB_fr (fun k _ _ => e4 k (by omega)) (fun q q1 q2 => e3 q (by omega) (by omega) (by omega) (by omega)) hB) e2 w1
    exact ⟨I2, e1.trans g1, g2, g3, keepF_tr ⟨w2, w3, w4, w5⟩ g4, fun s s1 s2 s3 s4 => by rw [g5 s s1 s2 s3 s4, e3 s s1 s2 s3 s4], fun j hj => by rw [g6 j hj, e4 j hj]⟩
theorem c234h {d r T : Nat} {I : Nat → Nat → Int32} {z : e_Z} {B : e_B} {S : e_T} (hr : R2 r) (wb : WB B) (hB : RB I B) (hF : RF I r S T) (ws : WS B S) :
    ∃ I', e_E (d + 4) 234 [.ref 489, .ref r] (mk I z) = some (.inl (some (.int (fnS B S).1)), mk I' z) ∧ RF I' r (fnS B S).2 T ∧ WS B (fnS B S).2 ∧ keepF S (fnS B S).2 ∧ (∀ s, s ≠ r → s ≠ 489 → s ≠ 519 → s ≠ 521 → I' s = I s) ∧ (∀ k, k ≠ 60 → I' 489 k = I 489 k) := by
  have wb4 : bPe B ≤ 9 := wb.2.2.2.1
  obtain ⟨I1, h1, h2, h3, h4, h5, h6⟩ := rf_loop (d := d) (z := z) (T := T) hr wb (bPe B) 0 (e_n 0, S) I (by omega) hB hF ws
  refine ⟨I1, e_E_ret (d := d + 3) ((C234_0 hr).trans (h1.trans ?_)), h2, h3, h4, h5, h6⟩
  have hpe : I1 489 4 = e_n (bPe B : Nat) := by rw [h6 4 (by decide)]; exact hB.2.2.2.1
  rw [C234_4 hr, hpe, if_neg (by rw [e_n_ltN (by omega) (by omega)]; omega)]
  rfl
end S68
