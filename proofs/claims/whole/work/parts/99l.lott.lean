/-! the lottery: the class searches -/
section S99l
theorem c44l {d b : Nat} {z : e_Z} {B : e_B} {x2 : Int32} (hb : B2 b) (wb : WB B) : ∀ (k p : Nat) (q : Int32 × e_T) (I : Nat → Nat → Int32), p + k = bPe B → BrC I b B → LC I B q → WM B (q.2 0) → (∀ r, p ≤ r → r < bPe B → (bt x2 r = true ↔ huC B (q.2 0) r)) →
    ∃ I', e_L (d + 4) 44 11 [.ref 483, .ref b, .int x2, .int (e_n (p : Nat))] [] (mk I z) = some (.inl none, mk I' z) ∧ LC I' B (itr (fd1 B) k p q) ∧ WM B ((itr (fd1 B) k p q).2 0) ∧ ∀ r, (r < 483 ∨ 488 < r) → I' r = I r := by
  have wb1 : bMa B ≤ 3 := wb.1
  have wb2 : bPl B ≤ 8 := wb.2.1
  have wb4 : bPe B ≤ 9 := wb.2.2.2.1
  have hbl := B2_le hb
  intro k
  induction k with
  | zero =>
    intro p q I hp hB hL wm hx
    have : p = bPe B := by omega
    subst this
    refine ⟨I, ?_, hL, wm, fun _ _ => rfl⟩
    rw [C44_11 hb, hB.2.2.2.1, if_neg (by rw [e_n_ltN (by omega) (by omega)]; omega)]
  | succ k ih =>
    intro p q I hp hB hL wm hx
    have hpb : p < bPe B := by omega
    obtain ⟨l1, l2, l3, l4, l5, l6, l7, l8⟩ := id hL
    have hxp := hx p (Nat.le_refl _) hpb
    rw [C44_11 hb, hB.2.2.2.1, if_pos (by rw [e_n_ltN (by omega) (by omega)]; exact hpb), show itr (fd1 B) (k + 1) p q = itr (fd1 B) k (p + 1) (fd1 B p q) from rfl]
    by_cases hu : huC B (q.2 0) p
    · rw [if_neg (fun h => by rw [and_bit _ (by omega), hxp.mpr hu] at h; cases h), show (e_n 10) = e_n ((10 : Nat) : Nat) from rfl, c42h (by decide) (by decide), e_rI_i, C44_33 hb, l7]
      obtain ⟨a, ha, hat⟩ := wm.2.1 p hpb
      have g1 : rd (e_u I 483 2 (drS q.1)) 487 (e_n (p : Nat)) = e_n (a : Nat) := by rw [rd_N (r := 487) (Nat.lt_of_lt_of_le hpb (Nat.le_trans wb4 (by decide))), e_u_na (by decide), (l5 p hpb).2, hat]
      have g2 : rd (e_u I 483 2 (drS q.1)) (b + 2) (e_n (a : Nat)) = bR B 1 (q.2 0 (22 + p)).toNatClampNeg := by rw [rd_N (by rw [lnb2 hb]; omega), e_u_na (by omega), hB.2.2.2.2.2.2.1 a ha, hat, e_n_nat' (by omega)]
      have g3 : rd (e_u I 483 2 (drS q.1)) (484 + 2) (e_n (p : Nat)) = q.2 0 (13 + p) := by
        show rd (e_u I 483 2 (drS q.1)) 486 (e_n (p : Nat)) = _
        rw [rd_N (r := 486) (Nat.lt_of_lt_of_le hpb (Nat.le_trans wb4 (by decide))), e_u_na (by decide), (l5 p hpb).1]
      rw [g1, g2]
      have hfd : fd1 B p q = (drS q.1, if drV (drS q.1) (e_n 10) < bR B 1 (q.2 0 (22 + p)).toNatClampNeg then dieS B p q.2 else q.2) := by unfold fd1; rw [if_pos hu]
      by_cases hlt : drV (drS q.1) (e_n ((10 : Nat) : Nat)) < bR B 1 (q.2 0 (22 + p)).toNatClampNeg
      · have hfd' : fd1 B p q = (drS q.1, dieS B p q.2) := by rw [hfd, if_pos (show drV (drS q.1) (e_n 10) < _ from hlt)]
        have hd : bt (q.2 0 1) p = false := by simpa using hu.2.1
        obtain ⟨w1, -, w3⟩ := wm_die wb wm hpb hd
        have hsl : rd (e_u I 483 2 (drS q.1)) (b + 15) (e_n (p : Nat)) * (e_n 10 - e_min (e_u I 483 2 (drS q.1) 484 3) (e_n 9)) / e_n 10 = saleS B (q.2 0) p := by
          rw [rd_N (by rw [lnb15 hb]; omega), e_u_na (show b + 15 ≠ 483 by omega), (hB.2.2.2.2.2.2.2.2.1 p hpb).1, e_min_9, e_u_na (by decide), l3]; rfl
        rw [if_pos hlt, c57 hb M3_484, e_rI_i, C44_71 hb, hsl, g3, e_n_succ]
        have hxk : ∀ r, p + 1 ≤ r → r < bPe B → (bt x2 r = true ↔ huC B ((fd1 B p q).2 0) r) := by
          intro r hr1 hr2
          rw [hx r (by omega) hr2, hfd']
          show huC B (q.2 0) r ↔ huC B (dieS B p q.2 0) r
          unfold huC
          rw [w3 (4 + r) (by omega) (by omega), w3 (22 + r) (by omega) (by omega), die0, if_pos rfl, bt_or, bt_bit (by omega)]
          have : decide (r = p) = false := by simp; omega
          rw [this, Bool.or_false]
        rw [hfd'] at hxk ⊢
        have hlm : lm B (dieS B p q.2 0) = lm B (q.2 0) := by
          unfold lm; apply itr_congr; intro i s hi; rw [w3 (4 + i) (by omega) (by omega)]
        have base : ∀ J : Nat → Nat → Int32, (J 484 1 = lm B (q.2 0)) → J 484 2 = q.2 0 1 ||| e_shl (e_n 1) (e_n (p : Nat)) → J 484 3 = q.2 0 2 + e_n 1 → J 484 4 = q.2 0 3 → J 486 = I 486 → J 487 = I 487 → (∀ m, m < bMa B → J 488 m = dieS B p q.2 0 (31 + m)) → J 483 2 = drS q.1 → J 483 1 = q.2 4 1 + tf (saleS B (q.2 0) p = 0) → LC J B (drS q.1, dieS B p q.2) := by
          intro J h1 h2 h3 h4 h5 h6 h7 h8 h9
          refine ⟨?_, ?_, ?_, ?_, ?_, h7, h8, ?_⟩
          · show _ = lm B (dieS B p q.2 0); rw [hlm]; exact h1
          · show _ = dieS B p q.2 0 1; rw [die0, if_pos rfl]; exact h2
          · show _ = dieS B p q.2 0 2; rw [die0, if_neg (by decide), if_pos rfl]; exact h3
          · show _ = dieS B p q.2 0 3; rw [w3 3 (by decide) (by decide)]; exact h4
          · intro r hr
            show _ = dieS B p q.2 0 (13 + r) ∧ _ = dieS B p q.2 0 (22 + r)
            rw [w3 _ (by omega) (by omega), w3 _ (by omega) (by omega), h5, h6]; exact l5 r hr
          · show _ = dieS B p q.2 4 1; rw [die4]; exact h9
        obtain ⟨v, hv, hsale⟩ := sale_n wb wm hpb
        -- who wrote him
        rcases (show q.2 0 (13 + p) < 0 ∨ ∃ m : Nat, m < bMa B ∧ q.2 0 (13 + p) = e_n (m : Nat) from by
          rcases wm.2.2.1 p hpb with h | h | h
          · rw [h]; exact Or.inl (by decide)
          · rw [h]; exact Or.inl (by decide)
          · exact Or.inr h) with hneg | ⟨m, hm, hby⟩
        · rw [wr_neg hneg]
          refine (fun hh => ?_) (ih (p + 1) (drS q.1, dieS B p q.2) (e_u (e_u (e_u (e_u I 483 2 (drS q.1)) 484 2 (e_u I 483 2 (drS q.1) 484 2 ||| e_shl (e_n 1) (e_n (p : Nat)))) 484 3 (e_u I 483 2 (drS q.1) 484 3 + e_n 1)) 483 1 (e_u I 483 2 (drS q.1) 483 1 + tf (saleS B (q.2 0) p = 0))) (by omega) (BrC_fr (fun k _ _ _ _ _ => by rw [e_u_na (by omega), e_u_na (by omega), e_u_na (by omega), e_u_na (by omega)]) hB) (base _ ?_ ?_ ?_ ?_ ?_ ?_ ?_ ?_ ?_) w1 hxk)
          · obtain ⟨I', a1, a2, a3, a4⟩ := hh
            refine ⟨I', a1, a2, a3, fun r hr => by rw [a4 r hr, e_u_na (by omega), e_u_na (by omega), e_u_na (by omega), e_u_na (by omega)]⟩
          · simp (disch := decide) only [e_u_na, e_u_ne, e_u_same]; exact l1
          · simp (disch := decide) only [e_u_na, e_u_ne, e_u_same, l2]
          · simp (disch := decide) only [e_u_na, e_u_ne, e_u_same, l3]
          · simp (disch := decide) only [e_u_na, e_u_ne, e_u_same]; exact l4
          · simp (disch := decide) only [e_u_na]
          · simp (disch := decide) only [e_u_na]
          · intro m hm
            simp (disch := decide) only [e_u_na]
            rw [die0, if_neg (by omega), if_neg (by omega), if_neg (fun h => h.1 hneg)]; exact l6 m hm
          · simp (disch := decide) only [e_u_na, e_u_ne, e_u_same]
          · simp (disch := decide) only [e_u_na, e_u_ne, e_u_same, l8]
        · have hmn : ¬ q.2 0 (13 + p) < 0 := by rw [hby, show (0 : Int32) = e_n ((0 : Nat) : Nat) from rfl, e_n_ltN (by omega) (by omega)]; omega
          obtain ⟨dv, hdv, hde⟩ := wm.2.2.2.2.1 m hm
          have hmk : (e_n (m : Nat)).toNatClampNeg = m := e_n_nat' (by omega)
          have hm3 : m < 3 := by omega
          have g5 : rd (e_u I 483 2 (drS q.1)) (484 + 4) (e_n (m : Nat)) = e_n (dv : Nat) := by
            show rd (e_u I 483 2 (drS q.1)) 488 (e_n (m : Nat)) = _
            rw [rd_N (r := 488) (Nat.lt_of_lt_of_le hm3 (by decide)), e_u_na (by decide), l6 m hm, hde]
          rw [hby, g5, hsale, debt_n hdv hv, wr_N (r := 484 + 4) (k := m) (by rw [lna4 M3_484]; exact hm3)]
          generalize hnd : (if e_n (dv : Nat) < e_n (v : Nat) then e_n 0 else e_n (dv : Nat) - e_n (v : Nat)) = nd
          refine (fun hh => ?_) (ih (p + 1) (drS q.1, dieS B p q.2) (e_u (e_u (e_u (e_u (e_u I 483 2 (drS q.1)) 484 2 (e_u I 483 2 (drS q.1) 484 2 ||| e_shl (e_n 1) (e_n (p : Nat)))) 484 3 (e_u I 483 2 (drS q.1) 484 3 + e_n 1)) 488 m nd) 483 1 (e_u I 483 2 (drS q.1) 483 1 + tf (e_n (v : Nat) = 0))) (by omega) (BrC_fr (fun k _ _ _ _ _ => by rw [e_u_na (by omega), e_u_na (by omega), e_u_na (by omega), e_u_na (by omega), e_u_na (by omega)]) hB) (base _ ?_ ?_ ?_ ?_ ?_ ?_ ?_ ?_ ?_) w1 hxk)
          · obtain ⟨I', a1, a2, a3, a4⟩ := hh
            refine ⟨I', a1, a2, a3, fun r hr => by rw [a4 r hr, e_u_na (by omega), e_u_na (by omega), e_u_na (by omega), e_u_na (by omega), e_u_na (by omega)]⟩
          · simp (disch := decide) only [e_u_na, e_u_ne, e_u_same]; exact l1
          · simp (disch := decide) only [e_u_na, e_u_ne, e_u_same, l2]
          · simp (disch := decide) only [e_u_na, e_u_ne, e_u_same, l3]
          · simp (disch := decide) only [e_u_na, e_u_ne, e_u_same]; exact l4
          · simp (disch := decide) only [e_u_na]
          · simp (disch := decide) only [e_u_na]
          · intro m' hm'
            simp (disch := decide) only [e_u_na, e_u_at]
            have e0 := die0 B p q.2 (31 + m')
            rw [if_neg (show ¬ 31 + m' = 1 by omega), if_neg (show ¬ 31 + m' = 2 by omega)] at e0
            rw [e0]
            by_cases hmm : m' = m
            · subst hmm
              rw [if_pos rfl, if_pos ⟨hmn, by rw [hby, hmk]⟩, hsale, hde, hnd]
            · rw [if_neg hmm, if_neg (fun h => by have := h.2; rw [hby, hmk] at this; omega)]; exact l6 m' hm'
          · simp (disch := decide) only [e_u_na, e_u_ne, e_u_same]
          · simp (disch := decide) only [e_u_na, e_u_ne, e_u_same, l8, hsale]
      · have hfd' : fd1 B p q = (drS q.1, q.2) := by rw [hfd, if_neg (show ¬ drV (drS q.1) (e_n 10) < _ from hlt)]
        rw [if_neg hlt, hfd', e_n_succ]
        obtain ⟨I', a1, a2, a3, a4⟩ := ih (p + 1) (drS q.1, q.2) (e_u I 483 2 (drS q.1)) (by omega) (BrC_fr (fun k _ _ _ _ _ => by rw [e_u_na (by omega)]) hB) ⟨by rw [e_u_na (by decide)]; exact l1, by rw [e_u_na (by decide)]; exact l2, by rw [e_u_na (by decide)]; exact l3, by rw [e_u_na (by decide)]; exact l4, by rw [e_u_na (by decide), e_u_na (by decide)]; exact l5, by rw [e_u_na (by decide)]; exact l6, e_u_same, by rw [e_u_ne (by decide)]; exact l8⟩ wm (fun r h1 h2 => hx r (by omega) h2)
        exact ⟨I', a1, a2, a3, fun r hr => by rw [a4 r hr, e_u_na (by omega)]⟩
    · have hfd : fd1 B p q = q := by unfold fd1; rw [if_neg hu]
      have hx0 : bt x2 p = false := by
        cases hh : bt x2 p with
        | true => exact absurd (hxp.mp hh) hu
        | false => rfl
      rw [if_pos (by rw [and_bit _ (by omega)]; exact hx0), hfd, e_n_succ]
      exact ih (p + 1) q I (by omega) hB hL wm (fun r h1 h2 => hx r (by omega) h2)
end S99l
