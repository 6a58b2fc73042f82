/-! a morning of the class's forecast -/
section S59
theorem ws_fn1 {B : e_B} {S : e_T} {n : Int32} {p : Nat} (wb : WB B) (ws : WS B S) (hp : p < bPe B) : WS B (fn1 B p (n, S)).2 ∧ (fn1 B p (n, S)).2 0 0 = S 0 0 ∧ (∀ j, 3 ≤ j → j < 31 → (fn1 B p (n, S)).2 0 j = S 0 j) ∧ (∀ r, r ≠ 0 → r ≠ 2 → r ≠ 3 → r ≠ 4 → (fn1 B p (n, S)).2 r = S r) ∧ (∀ k, k ≠ 1 → (fn1 B p (n, S)).2 4 k = S 4 k) := by
  have wb4 : bPe B ≤ 9 := wb.2.2.2.1
  by_cases hfc : fndC B (S 0) p
  · have hfn : fn1 B p (n, S) = (n + e_n 1, e_u (dieS B p S) 2 p (S 0 0)) := by unfold fn1; rw [if_pos hfc]
    rw [hfn]
    have hd : bt (S 0 1) p = false := by simpa using hfc.2.1
    obtain ⟨h1, h2, h3⟩ := wm_die wb ws.1 hp hd
    have r0 : e_u (dieS B p S) 2 p (S 0 0) 0 = dieS B p S 0 := e_u_na (by decide)
    have r4 : ∀ k, k ≠ 1 → dieS B p S 4 k = S 4 k := by
      intro k hk
      unfold dieS
      by_cases hb : S 0 (13 + p) < 0
      · simp (disch := decide) only [hb, if_true, e_u_na, e_u_at]; rw [if_neg hk]
      · simp (disch := decide) only [hb, if_false, e_u_na, e_u_at]; rw [if_neg hk]
    have rr : ∀ r, r ≠ 0 → r ≠ 3 → r ≠ 4 → dieS B p S r = S r := by
      intro r r0 r3 r4
      unfold dieS
      by_cases hb : S 0 (13 + p) < 0
      · simp only [hb, if_true]; rw [e_u_na r4, e_u_na r0, e_u_na r0]
      · simp only [hb, if_false]; rw [e_u_na r0, e_u_na r3, e_u_na r4, e_u_na r0, e_u_na r0]
    obtain ⟨wm, k, hk, hk9⟩ := ws
    refine ⟨⟨by simp only [r0]; exact h1, k, ?_, ?_⟩, ?_, ?_, ?_, ?_⟩
    · show e_u (dieS B p S) 2 p (S 0 0) 4 0 = _
      rw [e_u_na (by decide), r4 0 (by decide)]; exact hk
    · simp only [r0]
      rw [cnt_congr (g := fun q => decide (S 0 (4 + q) = e_n (-1))) (fun i hi => by rw [h3 (4 + i) (by omega) (by omega)])]
      exact hk9
    · simp only [r0]; exact h2
    · intro j j3 j31
      simp only [r0]; exact h3 j j3 j31
    · intro r r0 r2 r3 r4
      show e_u (dieS B p S) 2 p (S 0 0) r = S r
      rw [e_u_na r2, rr r r0 r3 r4]
    · intro j hj
      show e_u (dieS B p S) 2 p (S 0 0) 4 j = S 4 j
      rw [e_u_na (by decide), r4 j hj]
  · have hfn : fn1 B p (n, S) = (n, S) := by unfold fn1; rw [if_neg hfc]
    rw [hfn]
    exact ⟨ws, rfl, fun _ _ _ => rfl, fun _ _ _ _ _ => rfl, fun _ _ => rfl⟩
/-- what searching leaves -/
def keepF (S S' : e_T) : Prop := S' 0 0 = S 0 0 ∧ (∀ j, 3 ≤ j → j < 31 → S' 0 j = S 0 j) ∧ (∀ r, r ≠ 0 → r ≠ 2 → r ≠ 3 → r ≠ 4 → S' r = S r) ∧ (∀ k, k ≠ 1 → S' 4 k = S 4 k)
theorem keepF_rf (S : e_T) : keepF S S := ⟨rfl, fun _ _ _ => rfl, fun _ _ _ _ _ => rfl, fun _ _ => rfl⟩
theorem keepF_tr {a b c : e_T} (h : keepF a b) (g : keepF b c) : keepF a c := ⟨g.1.trans h.1, fun j h1 h2 => (g.2.1 j h1 h2).trans (h.2.1 j h1 h2), fun r h0 h2 h3 h4 => (g.2.2.1 r h0 h2 h3 h4).trans (h.2.2.1 r h0 h2 h3 h4), fun k hk => (g.2.2.2 k hk).trans (h.2.2.2 k hk)⟩
theorem sr_loop {d T : Nat} {z : e_Z} {B : e_B} (wb : WB B) : ∀ (k p : Nat) (q : Int32 × e_T) (I : Nat → Nat → Int32) (u3 u4 : Value), p + k = bPe B → BrC I (bd z.2.1.2.2.1) B → FC I B q.2 T → WS B q.2 →
    ∃ I' u3' u4', e_L (d + 3) 17 4 [.ref 470, .int q.1, .int (e_n (p : Nat)), u3, u4] [] (mk I z) = e_L (d + 3) 17 4 [.ref 470, .int (itr (fn1 B) k p q).1, .int (e_n (bPe B : Nat)), u3', u4'] [] (mk I' z) ∧ FC I' B (itr (fn1 B) k p q).2 T ∧ WS B (itr (fn1 B) k p q).2 ∧ keepF q.2 (itr (fn1 B) k p q).2 ∧ (∀ r, r ≠ 471 → r ≠ 475 → r ≠ 477 → r ≠ 478 → I' r = I r) := by
  have hb := B2_bd z.2.1.2.2.1
  have hbl := B2_le hb
  intro k
  induction k with
  | zero =>
    intro p q I u3 u4 hp hB hF ws
    exact ⟨I, u3, u4, by rw [show p = bPe B by omega]; rfl, hF, ws, keepF_rf _, fun _ _ _ _ _ => rfl⟩
  | succ k ih =>
    intro p q I u3 u4 hp hB hF ws
    obtain ⟨I1, v3, v4, h1, h2, h3⟩ := sr_step (d := d) (z := z) (n := q.1) (u3 := u3) (u4 := u4) wb ws.1 hB hF (show p < bPe B by omega)
    obtain ⟨w1, w2, w3, w4, w5⟩ := ws_fn1 (n := q.1) wb ws (show p < bPe B by omega)
    obtain ⟨I2, x3, x4, g1, g2, g3, g4, g5⟩ := ih (p + 1) (fn1 B p q) I1 v3 v4 (by omega) (BrC_fr (fun k _ _ _ _ _ => h3 _ (by omega) (by omega) (by omega) (by omega)) hB) h2 w1
    exact ⟨I2, x3, x4, h1.trans g1, g2, g3, keepF_tr ⟨w2, w3, w4, w5⟩ g4, fun r r1 r2 r3 r4 => by rw [g5 r r1 r2 r3 r4, h3 r r1 r2 r3 r4]⟩
theorem c17h {d T : Nat} {I : Nat → Nat → Int32} {z : e_Z} {B : e_B} {S : e_T} (wb : WB B) (hB : BrC I (bd z.2.1.2.2.1) B) (hF : FC I B S T) (ws : WS B S) :
    ∃ I', e_E (d + 4) 17 [.ref 470] (mk I z) = some (.inl (some (.int (fnS B S).1)), mk I' z) ∧ FC I' B (fnS B S).2 T ∧ WS B (fnS B S).2 ∧ keepF S (fnS B S).2 ∧ (∀ r, r ≠ 471 → r ≠ 475 → r ≠ 477 → r ≠ 478 → I' r = I r) := by
  have hb := B2_bd z.2.1.2.2.1
  have hbl := B2_le hb
  have wb4 : bPe B ≤ 9 := wb.2.2.2.1
  obtain ⟨I1, v3, v4, h1, h2, h3, h4, h5⟩ := sr_loop (d := d) (z := z) (T := T) wb (bPe B) 0 (e_n 0, S) I .null .null (by omega) hB hF ws
  refine ⟨I1, e_E_ret (d := d + 3) (C17_0.trans (h1.trans ?_)), h2, h3, h4, h5⟩
  have hpe : I1 (bd z.2.1.2.2.1) 6 = e_n (bPe B : Nat) := by rw [h5 _ (by omega) (by omega) (by omega) (by omega)]; exact hB.2.2.2.1
  rw [C17_4, hpe, if_neg (by rw [e_n_ltN (by omega) (by omega)]; omega)]
  rfl
/-- what writing leaves -/
def keepW (S S' : e_T) : Prop := S' 0 3 = S 0 3 ∧ S' 0 0 = S 0 0 ∧ (∀ r, r ≠ 0 → r ≠ 1 → r ≠ 4 → S' r = S r) ∧ (∀ k, k ≠ 0 → S' 4 k = S 4 k)
theorem wr_loop {d T : Nat} {z : e_Z} {B : e_B} {sk x1 : Int32} (wb : WB B) : ∀ (k m : Nat) (q : Int32 × e_T) (I : Nat → Nat → Int32), m + k = bMa B → BrC I (bd z.2.1.2.2.1) B → FC I B q.2 T → WS B q.2 → I 470 2 = sk → q.2 0 3 = e_n 1 →
    ∃ I', e_L (d + 4) 14 11 [.ref 470, .int x1, .int (e_n (m : Nat))] [] (mk I z) = e_L (d + 4) 14 11 [.ref 470, .int x1, .int (e_n (bMa B : Nat))] [] (mk I' z) ∧ FC I' B (itr (wr1 B sk) k m q).2 T ∧ WS B (itr (wr1 B sk) k m q).2 ∧ keepW q.2 (itr (wr1 B sk) k m q).2 ∧ (∃ c : Nat, c ≤ k ∧ (itr (wr1 B sk) k m q).1 = q.1 + e_n (c : Nat) ∧ (itr (wr1 B sk) k m q).2 4 0 = q.2 4 0 + e_n (c : Nat)) ∧ (∀ r, r ≠ bd z.2.1.2.2.1 + 10 → r ≠ bd z.2.1.2.2.1 + 11 → r ≠ 470 → r ≠ 471 → r ≠ 472 → r ≠ 473 → r ≠ 476 → I' r = I r) ∧ (∀ k, k ≠ 9 → I' 470 k = I 470 k) := by
  have hb := B2_bd z.2.1.2.2.1
  have hbl := B2_le hb
  have wb1 : bMa B ≤ 3 := wb.1
  intro k
  induction k with
  | zero =>
    intro m q I hm hB hF ws hs ho
    exact ⟨I, by rw [show m = bMa B by omega], hF, ws, ⟨rfl, rfl, fun _ _ _ _ => rfl, fun _ _ => rfl⟩, ⟨0, Nat.le_refl _, by simp [itr]; rfl, by simp [itr]; rfl⟩, fun _ _ _ _ _ _ _ _ => rfl, fun _ _ => rfl⟩
  | succ k ih =>
    intro m q I hm hB hF ws hs ho
    have hma : I (bd z.2.1.2.2.1) 2 = e_n (bMa B : Nat) := hB.1
    have hop : I 471 4 = e_n 1 := by rw [hF.1.2.2.2.2.1]; exact ho
    obtain ⟨I1, h1, h2, h3, h4⟩ := c16h (d := d) (z := z) (n := q.1) wb ws (show m < bMa B by omega) hB hF hs
    obtain ⟨w1, w2, w3, w4, w5, w6⟩ := ws_wr1 (sk := sk) (n := q.1) wb ws (show m < bMa B by omega)
    obtain ⟨I2, g1, g2, g3, g4, ⟨c, hc, g5, g6⟩, g7, g8⟩ := ih (m + 1) (wr1 B sk m q) I1 (by omega) (BrC_fr (fun k _ _ _ h10 h11 => h3 _ (by omega) (by omega) (by omega) (by omega) (by omega) (by omega) (by omega)) hB) h2 w1 (by rw [h4 2 (by decide)]; exact hs) (w2.trans ho)
    refine ⟨I2, ?_, g2, g3, ⟨g4.1.trans w2, g4.2.1.trans w3, fun r r0 r1 r4 => (g4.2.2.1 r r0 r1 r4).trans (w4 r r0 r1 r4), fun j hj => (g4.2.2.2 j hj).trans (w5 j hj)⟩, ?_, fun r r1 r2 r3 r4 r5 r6 r7 => by rw [g7 r r1 r2 r3 r4 r5 r6 r7, h3 r r1 r2 r3 r4 r5 r6 r7], fun j hj => by rw [g8 j hj, h4 j hj]⟩
    · rw [C14_11, hma, if_pos (by rw [e_n_ltN (by omega) (by omega)]; omega), hop, if_neg (by decide), h1, e_rV_n, C14_37, e_n_succ]
      exact g1
    · rcases w6 with ⟨a1, a2⟩ | ⟨a1, a2⟩
      · exact ⟨c, by omega, by rw [show itr (wr1 B sk) (k + 1) m q = itr (wr1 B sk) k (m + 1) (wr1 B sk m q) from rfl, g5]; exact congrArg (· + _) a1, by rw [show itr (wr1 B sk) (k + 1) m q = itr (wr1 B sk) k (m + 1) (wr1 B sk m q) from rfl, g6]; exact congrArg (· + _) a2⟩
      · refine ⟨c + 1, by omega, ?_, ?_⟩
        · rw [show itr (wr1 B sk) (k + 1) m q = itr (wr1 B sk) k (m + 1) (wr1 B sk m q) from rfl, g5, show (wr1 B sk m q).1 = q.1 + e_n 1 from a1, Int32.add_assoc, e_n_add]
          congr 2; omega
        · rw [show itr (wr1 B sk) (k + 1) m q = itr (wr1 B sk) k (m + 1) (wr1 B sk m q) from rfl, g6, show (wr1 B sk m q).2 4 0 = q.2 4 0 + e_n 1 from a2, Int32.add_assoc, e_n_add]
          congr 2; omega
end S59
