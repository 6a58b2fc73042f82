/-! the lottery: the reference -/
section S99n
def LR (J : Nat → Nat → Int32) (B : e_B) (q : Int32 × e_T) (D : Nat) : Prop := J 489 79 = q.1 ∧ J 489 60 = q.2 4 1 ∧ (∀ j, j < 34 → j ≠ 0 → (j < 4 ∨ 13 ≤ j) → J 525 j = q.2 0 j) ∧ (∀ p, p < 9 → (J 525 (4 + p) = e_n (-1) ↔ q.2 0 (4 + p) = e_n (-1))) ∧ J 525 0 = e_n (D : Nat)
def LRf (J J' : Nat → Nat → Int32) : Prop := (∀ s, s ≠ 489 → s ≠ 519 → s ≠ 525 → J' s = J s) ∧ ∀ k, k ≠ 60 → k ≠ 79 → J' 489 k = J 489 k
theorem LRf_tr {a b c : Nat → Nat → Int32} (h : LRf a b) (g : LRf b c) : LRf a c := ⟨fun s h1 h2 h3 => (g.1 s h1 h2 h3).trans (h.1 s h1 h2 h3), fun k h1 h2 => (g.2 k h1 h2).trans (h.2 k h1 h2)⟩
theorem LRf_RB {J J' : Nat → Nat → Int32} {B : e_B} (h : LRf J J') (hB : RB J B) : RB J' B := RB_fr (fun k _ _ => h.2 k (by omega) (by omega)) (fun q _ _ => h.1 q (by omega) (by omega) (by omega)) hB
theorem c287h {d n : Nat} {J : Nat → Nat → Int32} {z : e_Z} (h0 : 0 < n) (hn : n < 1000) : e_E (d + 1) 287 [.ref 489, .int (e_n (n : Nat))] (mk J z) = some (.inl (some (.int (drV (drS (J 489 79)) (e_n (n : Nat))))), mk (e_u J 489 79 (drS (J 489 79))) z) := by
  rw [c287 (fun h => by rw [show (0 : Int32) = e_n ((0 : Nat) : Nat) from rfl, e_n_inj (by omega) (by omega) (by omega) (by omega)] at h; omega)]
  rfl
theorem LR_u {J : Nat → Nat → Int32} {B : e_B} {q : Int32 × e_T} {D : Nat} {s : Int32} (h : LR J B q D) : LR (e_u J 489 79 s) B (s, q.2) D := by
  obtain ⟨h1, h2, h3, h4, h5⟩ := h
  refine ⟨e_u_same, by rw [e_u_ne (by decide)]; exact h2, by rw [e_u_na (by decide)]; exact h3, by rw [e_u_na (by decide)]; exact h4, by rw [e_u_na (by decide)]; exact h5⟩
theorem LRf_u {J : Nat → Nat → Int32} {s : Int32} : LRf J (e_u J 489 79 s) := ⟨fun r h1 _ _ => e_u_na h1, fun k _ h2 => e_u_ne h2⟩
theorem c230k {d p D : Nat} {J : Nat → Nat → Int32} {z : e_Z} {B : e_B} {q : Int32 × e_T} (wb : WB B) (wm : WM B (q.2 0)) (hB : RB J B) (hF : LR J B q D) (hp : p < bPe B) (hd : bt (q.2 0 1) p = false) :
    ∃ J', e_E (d + 3) 230 [.ref 489, .ref 525, .int (e_n (p : Nat))] (mk J z) = some (.inl none, mk J' z) ∧ LR J' B (q.1, dieS B p q.2) D ∧ LRf J J' := by
  have wb4 : bPe B ≤ 9 := wb.2.2.2.1
  have wb1 : bMa B ≤ 3 := wb.1
  have hr : R2 525 := Or.inr rfl
  obtain ⟨f1, f2, f3, f4, f5⟩ := hF
  have hv : v229 J 525 (e_n (p : Nat)) = saleS B (q.2 0) p := by
    unfold v229 saleS
    rw [e_n_nat' (by omega), f3 2 (by decide) (by decide) (by decide), (hB.2.2.2.2.2.2.2.2.2.1 p hp).1]
  have i13 : (e_n 13 + e_n (p : Nat)).toNatClampNeg = 13 + p := ix (a := 13) (by omega)
  have hby : J 525 (13 + p) = q.2 0 (13 + p) := f3 _ (by omega) (by omega) (by omega)
  have gp : InR (e_n (p : Nat)) 9 := InR_n (by omega) (by omega) (by omega)
  have g13 : InR (e_n 13 + e_n (p : Nat)) 34 := ixI (a := 13) (by omega) (by decide)
  have fin : ∀ J' : Nat → Nat → Int32, J' 489 79 = J 489 79 → J' 489 60 = J 489 60 + tf (saleS B (q.2 0) p = 0) → (∀ j, j < 34 → j ≠ 0 → (j < 4 ∨ 13 ≤ j) → J' 525 j = dieS B p q.2 0 j) → (∀ k, k < 9 → J' 525 (4 + k) = J 525 (4 + k)) → J' 525 0 = J 525 0 → LR J' B (q.1, dieS B p q.2) D := by
    intro J' a1 a2 a3 a4 a5
    refine ⟨a1.trans f1, ?_, a3, fun k hk => ?_, a5.trans f5⟩
    · show _ = dieS B p q.2 4 1
      rw [die4, a2, f2]
    · show _ ↔ dieS B p q.2 0 (4 + k) = _
      rw [a4 k hk, (wm_die wb wm hp hd).2.2 (4 + k) (by omega) (by omega)]
      exact f4 k hk
  rcases (show q.2 0 (13 + p) < 0 ∨ ∃ m : Nat, m < bMa B ∧ q.2 0 (13 + p) = e_n (m : Nat) from by
      rcases wm.2.2.1 p hp with h | h | h
      · rw [h]; exact Or.inl (by decide)
      · rw [h]; exact Or.inl (by decide)
      · exact Or.inr h) with hneg | ⟨m, hm, hbm⟩
  · have hlt : J 525 (e_n 13 + e_n (p : Nat)).toNatClampNeg < 0 := by rw [i13, hby]; exact hneg
    rw [c230 hr gp g13 (fun _ h => absurd hlt h) (fun _ h => absurd hlt h) (fun _ h => absurd hlt h) (fun _ h => absurd hlt h), if_pos hlt, hv]
    refine ⟨_, rfl, fin _ ?_ ?_ ?_ ?_ ?_, ?_, ?_⟩
    · simp (disch := decide) only [e_u_na, e_u_ne]
    · simp (disch := decide) only [e_u_na, e_u_ne, e_u_same]
    · intro j hj j0 jj
      rw [die0]
      have hn : ¬ (¬ q.2 0 (13 + p) < 0 ∧ j = 31 + (q.2 0 (13 + p)).toNatClampNeg) := fun h => h.1 hneg
      rw [if_neg hn]
      simp (disch := decide) only [e_u_na, e_u_at, f3 1 (by decide) (by decide) (by decide), f3 2 (by decide) (by decide) (by decide)]
      by_cases j1 : j = 1
      · subst j1; rfl
      · by_cases j2 : j = 2
        · subst j2; rfl
        · rw [if_neg j2, if_neg j1, if_neg j1, if_neg j2]; exact f3 j hj j0 jj
    · intro k hk
      simp (disch := decide) only [e_u_na, e_u_at]
      rw [if_neg (by omega), if_neg (by omega)]
    · simp (disch := decide) only [e_u_na, e_u_ne]
    · intro s s1 s2 s3
      simp (disch := first | decide | assumption) only [e_u_na]
    · intro k k1 k2
      rw [e_u_ne k1]; simp (disch := first | decide | assumption) only [e_u_na]
  · have hmn : ¬ q.2 0 (13 + p) < 0 := by rw [hbm, show (0 : Int32) = e_n ((0 : Nat) : Nat) from rfl, e_n_ltN (by omega) (by omega)]; omega
    have hnl : ¬ J 525 (e_n 13 + e_n (p : Nat)).toNatClampNeg < 0 := by rw [i13, hby]; exact hmn
    have hbe : J 525 (e_n 13 + e_n (p : Nat)).toNatClampNeg = e_n (m : Nat) := by rw [i13, hby, hbm]
    have hmk : (e_n (m : Nat)).toNatClampNeg = m := e_n_nat' (by omega)
    have i31 : (e_n 31 + e_n (m : Nat)).toNatClampNeg = 31 + m := ix (a := 31) (by omega)
    rw [c230 hr gp g13 (fun _ _ => by rw [hbe]; exact InR_n (by omega) (by omega) (by omega)) (fun _ _ => by rw [hbe]; exact ixI (a := 31) (by omega) (by decide)) (fun _ _ => by rw [hbe]; exact InR_n (by omega) (by omega) (by omega)) (fun _ _ => by rw [hbe]; exact ixI (a := 31) (by omega) (by decide)), if_neg hnl, hv, hbe, hmk, i31]
    simp (disch := first | decide | assumption | omega) only [e_u_na, e_u_ne, f3 (31 + m) (by omega) (by omega) (by omega)]
    generalize hnd : (if q.2 0 (31 + m) < saleS B (q.2 0) p then e_n 0 else q.2 0 (31 + m) - saleS B (q.2 0) p) = nd
    refine ⟨_, rfl, fin _ ?_ ?_ ?_ ?_ ?_, ?_, ?_⟩
    · simp (disch := decide) only [e_u_na, e_u_ne]
    · simp (disch := decide) only [e_u_na, e_u_ne, e_u_same]
    · intro j hj j0 jj
      rw [die0]
      simp (disch := decide) only [e_u_na, e_u_at, f3 1 (by decide) (by decide) (by decide), f3 2 (by decide) (by decide) (by decide)]
      by_cases j3 : j = 31 + m
      · subst j3
        rw [if_pos rfl, if_neg (show ¬ 31 + m = 1 by omega), if_neg (show ¬ 31 + m = 2 by omega), if_pos (show ¬ q.2 0 (13 + p) < 0 ∧ 31 + m = 31 + (q.2 0 (13 + p)).toNatClampNeg from ⟨hmn, by rw [hbm, hmk]⟩), hnd]
      · have hn : ¬ (¬ q.2 0 (13 + p) < 0 ∧ j = 31 + (q.2 0 (13 + p)).toNatClampNeg) := fun h => j3 (by have := h.2; rw [hbm, hmk] at this; exact this)
        rw [if_neg j3, if_neg hn]
        by_cases j1 : j = 1
        · subst j1; rfl
        · by_cases j2 : j = 2
          · subst j2; rfl
          · rw [if_neg j2, if_neg j1, if_neg j1, if_neg j2]; exact f3 j hj j0 jj
    · intro k hk
      simp (disch := decide) only [e_u_na, e_u_at]
      rw [if_neg (by omega), if_neg (by omega), if_neg (by omega)]
    · rw [e_u_ne (by omega)]
      simp (disch := decide) only [e_u_na, e_u_ne]
    · intro s s1 s2 s3
      simp (disch := first | decide | assumption) only [e_u_na]
    · intro k k1 k2
      simp (disch := first | decide | assumption) only [e_u_na, e_u_ne]
end S99n
