section S67
def AR (I0 I : Nat → Nat → Int32) : Prop := ∀ q, q ≠ 517 → q ≠ 518 → I q = I0 q
def RF (I : Nat → Nat → Int32) (r : Nat) (S : e_T) (T : Nat) : Prop :=
  (∀ j, j < 34 → I r j = S 0 j) ∧ I 489 62 = S 4 0 ∧ I 489 60 = S 4 1 ∧ (∀ j, j < (S 4 0).toNatClampNeg → I 520 j = S 1 j) ∧ (∀ p, p < 9 → I 521 p = S 2 p) ∧ (∀ m, m < 3 → I 519 m = S 3 m) ∧ (∀ k, k < T → I 524 k = S 5 k ∧ I 523 k = S 6 k ∧ I 522 k = S 7 k)
theorem AR_RB {I0 I : Nat → Nat → Int32} {B : e_B} (hA : AR I0 I) (hB : RB I0 B) : RB I B := RB_fr (fun k _ _ => by rw [hA 489 (by decide) (by decide)]) (fun q _ _ => hA q (by omega) (by omega)) hB
theorem ch_loop {d r m : Nat} {z : e_Z} {B : e_B} {M : Nat → Int32} {sk : Int32} {I0 : Nat → Nat → Int32} (hr : R2 r) (wb : WB B) (hm : m < bMa B) (hB : RB I0 B) (hM : ∀ j, j < 34 → I0 r j = M j) (hs : I0 489 61 = sk) :
    ∀ (k p : Nat) (q : Int32 × Int32) (I : Nat → Nat → Int32) (u : Value), p + k = bPe B → AR I0 I → ∃ I' u', e_L (d + 3) 232 8 [.ref 489, .ref r, .int (e_n (m : Nat)), .int q.1, .int q.2, .int (e_n (p : Nat)), u] [] (mk I z) = e_L (d + 3) 232 8 [.ref 489, .ref r, .int (e_n (m : Nat)), .int (itr (fun p q => if e_n (p : Nat) = sk then q else if M (4 + p) = e_n (-1) then (if q.2 < grS B M m p then (e_n (p : Nat), grS B M m p) else q) else q) k p q).1, .int (itr (fun p q => if e_n (p : Nat) = sk then q else if M (4 + p) = e_n (-1) then (if q.2 < grS B M m p then (e_n (p : Nat), grS B M m p) else q) else q) k p q).2, .int (e_n (bPe B : Nat)), u'] [] (mk I' z) ∧ AR I0 I' := by
  have wb4 : bPe B ≤ 9 := wb.2.2.2.1
  have hr2 : r ≠ 517 ∧ r ≠ 518 := by rcases hr with rfl | rfl <;> decide
  intro k
  induction k with
  | zero =>
    intro p q I u hp hA
    exact ⟨I, u, by rw [show p = bPe B by omega]; rfl, hA⟩
  | succ k ih =>
    intro p q I u hp hA
    have hpe : I 489 4 = e_n (bPe B : Nat) := by rw [hA _ (by decide) (by decide)]; exact hB.2.2.2.1
    have hsk : I 489 61 = sk := by rw [hA _ (by decide) (by decide)]; exact hs
    have hM1 : ∀ j, j < 34 → I r j = M j := fun j hj => by rw [hA _ hr2.1 hr2.2]; exact hM j hj
    have hlt : e_n (p : Nat) < e_n (bPe B : Nat) := by rw [e_n_ltN (by omega) (by omega)]; omega
    rw [C232_8 hr (fun _ _ => ixI (a := 4) (by omega) (by decide)), hpe, if_pos hlt, hsk, show (e_n 4 + e_n (p : Nat)).toNatClampNeg = 4 + p from ix (a := 4) (by omega), hM1 _ (by omega), e_n_succ]
    rw [show itr (fun p q => if e_n (p : Nat) = sk then q else if M (4 + p) = e_n (-1) then (if q.2 < grS B M m p then (e_n (p : Nat), grS B M m p) else q) else q) (k + 1) p q = itr (fun p q => if e_n (p : Nat) = sk then q else if M (4 + p) = e_n (-1) then (if q.2 < grS B M m p then (e_n (p : Nat), grS B M m p) else q) else q) k (p + 1) (if e_n (p : Nat) = sk then q else if M (4 + p) = e_n (-1) then (if q.2 < grS B M m p then (e_n (p : Nat), grS B M m p) else q) else q) from rfl]
    by_cases h2 : e_n (p : Nat) = sk
    · rw [if_pos h2, if_pos h2]
      exact ih (p + 1) q I u (by omega) hA
    · rw [if_neg h2, if_neg h2]
      by_cases h1 : M (4 + p) = e_n (-1)
      · rw [if_pos h1, if_pos h1]
        obtain ⟨I1, h3, h4⟩ := c227h (d := d) (z := z) hr wb (AR_RB hA hB) hM1 hm (show p < bPe B by omega)
        rw [h3, e_rI_i, C232_47 hr, e_n_succ]
        have hA1 : AR I0 I1 := fun r h10 h11 => by rw [h4 r h10 h11, hA r h10 h11]
        by_cases h5 : q.2 < grS B M m p
        · rw [if_pos h5, if_pos h5, if_pos h5]
          exact ih (p + 1) (e_n (p : Nat), grS B M m p) I1 _ (by omega) hA1
        · rw [if_neg h5, if_neg h5, if_neg h5]
          exact ih (p + 1) q I1 _ (by omega) hA1
      · rw [if_neg h1, if_neg h1]
        exact ih (p + 1) q I u (by omega) hA
theorem c232h {d r m : Nat} {I : Nat → Nat → Int32} {z : e_Z} {B : e_B} {M : Nat → Int32} {sk : Int32} (hr : R2 r) (wb : WB B) (hm : m < bMa B) (hB : RB I B) (hM : ∀ j, j < 34 → I r j = M j) (hs : I 489 61 = sk) :
    ∃ I', e_E (d + 4) 232 [.ref 489, .ref r, .int (e_n (m : Nat))] (mk I z) = some (.inl (some (.int (chS B sk M m).1)), mk I' z) ∧ AR I I' := by
  have wb4 : bPe B ≤ 9 := wb.2.2.2.1
  obtain ⟨I1, u1, h1, hA⟩ := ch_loop (d := d) (z := z) hr wb hm hB hM hs (bPe B) 0 (e_n (-1), e_n 0) I .null (by omega) (fun _ _ _ => rfl)
  refine ⟨I1, e_E_ret (d := d + 3) ((C232_0 hr).trans (h1.trans ?_)), hA⟩
  have hpe : I1 489 4 = e_n (bPe B : Nat) := by rw [hA _ (by decide) (by decide)]; exact hB.2.2.2.1
  rw [C232_8 hr (fun h => absurd h (by rw [hpe, e_n_ltN (by omega) (by omega)]; omega)), hpe, if_neg (by rw [e_n_ltN (by omega) (by omega)]; omega)]
  rfl
theorem rw_loop {d r T : Nat} {z : e_Z} {B : e_B} {sk : Int32} (hr : R2 r) (wb : WB B) : ∀ (k m : Nat) (q : Int32 × e_T) (I : Nat → Nat → Int32) (u : Value), m + k = bMa B → RB I B → RF I r q.2 T → WS B q.2 → I 489 61 = sk → q.2 0 3 = e_n 1 →
    ∃ I' u', e_L (d + 4) 233 4 [.ref 489, .ref r, .int q.1, .int (e_n (m : Nat)), u] [] (mk I z) = e_L (d + 4) 233 4 [.ref 489, .ref r, .int (itr (wr1 B sk) k m q).1, .int (e_n (bMa B : Nat)), u'] [] (mk I' z) ∧ RF I' r (itr (wr1 B sk) k m q).2 T ∧ WS B (itr (wr1 B sk) k m q).2 ∧ keepW q.2 (itr (wr1 B sk) k m q).2 ∧ (∀ s, s ≠ r → s ≠ 489 → s ≠ 517 → s ≠ 518 → s ≠ 520 → I' s = I s) ∧ (∀ k, k ≠ 62 → I' 489 k = I 489 k) := by
  have wb1 : bMa B ≤ 3 := wb.1
  have wb4 : bPe B ≤ 9 := wb.2.2.2.1
  have hr2 : r ≠ 517 ∧ r ≠ 518 ∧ r ≠ 489 ∧ r ≠ 520 ∧ r ≠ 521 ∧ r ≠ 519 ∧ r ≠ 524 ∧ r ≠ 523 ∧ r ≠ 522 ∧ ¬ (490 ≤ r ∧ r ≤ 499) := by rcases hr with rfl | rfl <;> decide
  obtain ⟨r1, r2, r3, r4, r5, r6, r7, r8, r9, r10⟩ := hr2
  intro k
  induction k with
  | zero =>
    intro m q I u hm hB hF ws hs ho
    exact ⟨I, u, by rw [show m = bMa B by omega]; rfl, hF, ws, ⟨rfl, rfl, fun _ _ _ _ => rfl, fun _ _ => rfl⟩, fun _ _ _ _ _ _ => rfl, fun _ _ => rfl⟩
  | succ k ih =>
    intro m q I u hm hB hF ws hs ho
    have hma : I 489 1 = e_n (bMa B : Nat) := hB.1
    have hop : I r 3 = e_n 1 := by rw [hF.1 3 (by decide)]; exact ho
    obtain ⟨I1, h1, hA⟩ := c232h (d := d) (z := z) (m := m) hr wb (by omega) hB hF.1 hs
    obtain ⟨w1, w2, w3, w4, w5, w6⟩ := ws_wr1 (sk := sk) (n := q.1) wb ws (show m < bMa B by omega)
    have hlt : e_n (m : Nat) < e_n (bMa B : Nat) := by rw [e_n_ltN (by omega) (by omega)]; omega
    obtain ⟨f1, f2, f3, f4, f5, f6, f7⟩ := id hF
    have hF1 : RF I1 r q.2 T := ⟨fun j hj => by rw [hA r r1 r2]; exact f1 j hj, by rw [hA 489 (by decide) (by decide)]; exact f2, by rw [hA 489 (by decide) (by decide)]; exact f3, by rw [hA 520 (by decide) (by decide)]; exact f4, by rw [hA 521 (by decide) (by decide)]; exact f5, by rw [hA 519 (by decide) (by decide)]; exact f6, by rw [hA 524 (by decide) (by decide), hA 523 (by decide) (by decide), hA 522 (by decide) (by decide)]; exact f7⟩
    suffices hst : ∃ (I2 : Nat → Nat → Int32) (y : Value), e_L (d + 4) 233 25 [.ref 489, .ref r, .int q.1, .int (e_n (m : Nat)), u] [.int (chS B sk (q.2 0) m).1] (mk I1 z) = e_L (d + 4) 233 4 [.ref 489, .ref r, .int (wr1 B sk m q).1, .int (e_n ((m + 1 : Nat) : Nat)), y] [] (mk I2 z) ∧ RF I2 r (wr1 B sk m q).2 T ∧ (∀ s, s ≠ r → s ≠ 489 → s ≠ 517 → s ≠ 518 → s ≠ 520 → I2 s = I s) ∧ (∀ k, k ≠ 62 → I2 489 k = I 489 k) by
      obtain ⟨I2, y, e1, e2, e3, e4⟩ := hst
      obtain ⟨I3, u3, g1, g2, g3, g4, g5, g6⟩ := ih (m + 1) (wr1 B sk m q) I2 y (by omega) (RB_fr (fun k k1 k7 => e4 k (by omega)) (fun q q1 q2 => e3 q (by omega) (by omega) (by omega) (by omega) (by omega)) hB) e2 w1 (by rw [e4 61 (by decide)]; exact hs) (w2.trans ho)
      refine ⟨I3, u3, ?_, g2, g3, ⟨g4.1.trans w2, g4.2.1.trans w3, fun r q0 q1 q4 => (g4.2.2.1 r q0 q1 q4).trans (w4 r q0 q1 q4), fun j hj => (g4.2.2.2 j hj).trans (w5 j hj)⟩, fun s s1 s2 s3 s4 s5 => by rw [g5 s s1 s2 s3 s4 s5, e3 s s1 s2 s3 s4 s5], fun j hj => by rw [g6 j hj, e4 j hj]⟩
      rw [C233_4 hr, hma, if_pos hlt, hop, if_pos (by decide), h1, e_rI_i, e1]
      exact g1
    rcases chS_sp B sk (q.2 0) m with hc | ⟨p, hp, hc, hMp, -⟩
    · have hw : wr1 B sk m q = q := by unfold wr1; simp only [hc, if_true]
      rw [hw, hc]
      refine ⟨I1, .int (e_n (-1)), ?_, hF1, fun s s1 s2 s3 s4 s5 => hA s s3 s4, fun j _ => by rw [hA 489 (by decide) (by decide)]⟩
      rw [C233_25 hr (fun h => absurd rfl h) (fun h => absurd rfl h) (fun h => absurd rfl h), if_pos rfl, if_pos rfl, e_n_succ]
    · obtain ⟨⟨⟨t, ht, hday, -⟩, -⟩, k0, hk, hk9⟩ := ws
      have hkl : k0 < 9 := by
        have : 0 < cnt (bPe B) (fun p => decide (q.2 0 (4 + p) = e_n (-1))) := by
          have h2 := cnt_up (n := bPe B) (p := p) (f := fun i => decide (q.2 0 (4 + i) = e_n (-1)) && !decide (i = p)) (g := fun i => decide (q.2 0 (4 + i) = e_n (-1))) hp (fun i _ hi => by simp [hi]) (by simp) (by simp [hMp])
          omega
        omega
      have hcn : ¬ e_n (p : Nat) = e_n (-1) := e_n_neg1 (by omega)
      have hpn : (e_n (p : Nat)).toNatClampNeg = p := e_n_nat' (by omega)
      have hkn : (q.2 4 0).toNatClampNeg = k0 := by rw [hk]; exact e_n_nat' (by omega)
      have hw : wr1 B sk m q = (q.1 + e_n 1, e_u (e_u (entS q.2 p (e_n (m : Nat))) 1 k0 (e_n (p : Nat))) 4 0 (q.2 4 0 + e_n 1)) := by
        unfold wr1
        simp only [hc, hcn, if_false, hpn, hkn]
      rw [hw, hc]
      obtain ⟨g1, g2, g3, g4, g5, g6, g7⟩ := hF1
      have i4 : (e_n 4 + e_n (p : Nat)).toNatClampNeg = 4 + p := ix (a := 4) (by omega)
      have i13 : (e_n 13 + e_n (p : Nat)).toNatClampNeg = 13 + p := ix (a := 13) (by omega)
      have n62 : (e_u (e_u I1 r (e_n 4 + e_n (p : Nat)).toNatClampNeg (I1 r 0)) r (e_n 13 + e_n (p : Nat)).toNatClampNeg (e_n (m : Nat))) 489 62 = e_n (k0 : Nat) := by rw [e_u_na (Ne.symm r3), e_u_na (Ne.symm r3), g2, hk]
      rw [C233_25 hr (fun _ => ixI (a := 4) (by omega) (by decide)) (fun _ => ixI (a := 13) (by omega) (by decide)) (fun _ => by rw [n62]; exact InR_n (by omega) (by omega) (by omega)), if_neg hcn, if_neg hcn, n62, i4, i13, e_n_nat' (show k0 < 2147483648 by omega), g1 0 (by decide)]
      simp only [e_n_succ]
      have hr0 : (e_u (e_u (entS q.2 p (e_n (m : Nat))) 1 k0 (e_n (p : Nat))) 4 0 (q.2 4 0 + e_n 1)) 0 = entS q.2 p (e_n (m : Nat)) 0 := by rw [e_u_na (by decide), e_u_na (by decide)]
      refine ⟨_, _, rfl, ⟨?_, ?_, ?_, ?_, ?_, ?_, ?_⟩, ?_, ?_⟩
      · intro j hj
        rw [hr0, ent0, e_u_na r3, e_u_na r4, e_u_at, e_u_at]
        by_cases j1 : j = 13 + p
        · rw [if_pos j1, if_pos j1]
        · rw [if_neg j1, if_neg j1]
          by_cases j2 : j = 4 + p
          · rw [if_pos j2, if_pos j2]
          · rw [if_neg j2, if_neg j2]; exact g1 j hj
      · rw [e_u_same, e_u_same, hk, e_n_succ]
      · rw [e_u_ne (by decide), e_u_ne (by decide), e_u_na (by decide), e_u_na (Ne.symm r3), e_u_na (Ne.symm r3), e_u_na (by decide), entr _ _ _ (by decide)]; exact g3
      · intro j hj
        rw [e_u_same, hk, e_n_succ, e_n_nat' (by omega)] at hj
        rw [e_u_na (show (520 : Nat) ≠ 489 by decide), e_u_at, e_u_na (show (1 : Nat) ≠ 4 by decide), e_u_at]
        by_cases hjk : j = k0
        · rw [if_pos hjk, if_pos hjk]
        · rw [if_neg hjk, if_neg hjk, e_u_na (Ne.symm r4), e_u_na (Ne.symm r4), entr _ _ _ (by decide)]
          exact g4 j (by omega)
      · rw [e_u_na (by decide), e_u_na (by decide), e_u_na (Ne.symm r5), e_u_na (Ne.symm r5), e_u_na (by decide), e_u_na (by decide), entr _ _ _ (by decide)]; exact g5
      · rw [e_u_na (by decide), e_u_na (by decide), e_u_na (Ne.symm r6), e_u_na (Ne.symm r6), e_u_na (by decide), e_u_na (by decide), entr _ _ _ (by decide)]; exact g6
      · intro j hj
        have q7 := Ne.symm r7
        have q8 := Ne.symm r8
        have q9 := Ne.symm r9
        simp (disch := first | decide | assumption) only [e_u_na, entr]
        exact g7 j hj
      · intro s s1 s2 s3 s4 s5
        rw [e_u_na s2, e_u_na s5, e_u_na s1, e_u_na s1]; exact hA s s3 s4
      · intro j hj
        rw [e_u_ne hj, e_u_na (by decide), e_u_na (Ne.symm r3), e_u_na (Ne.symm r3), hA 489 (by decide) (by decide)]
end S67
