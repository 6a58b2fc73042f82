/-! the lottery: the reference plays -/
section S99o
theorem c288l {d D : Nat} {z : e_Z} {B : e_B} {x1 x2 : Int32} (wb : WB B) (hD : D < 1000) : ∀ (k p : Nat) (q : Int32 × e_T) (J : Nat → Nat → Int32), p + k = bPe B → RB J B → LR J B q D → WM B (q.2 0) →
    ∃ J', e_L (d + 3) 288 52 [.ref 489, .int x1, .int x2, .int (e_n (p : Nat))] [] (mk J z) = some (.inl none, mk J' z) ∧ LR J' B (itr (fd1 B) k p q) (D + 1) ∧ WM B ((itr (fd1 B) k p q).2 0) ∧ LRf J J' := by
  have wb2 : bPl B ≤ 8 := wb.2.1
  have wb4 : bPe B ≤ 9 := wb.2.2.2.1
  intro k
  induction k with
  | zero =>
    intro p q J hp hB hL wm
    have : p = bPe B := by omega
    subst this
    have hpe : J 489 4 = e_n (bPe B : Nat) := hB.2.2.2.1
    have hn : ¬ e_n (bPe B : Nat) < J 489 4 := by rw [hpe, e_n_ltN (by omega) (by omega)]; omega
    obtain ⟨f1, f2, f3, f4, f5⟩ := hL
    refine ⟨e_u J 525 0 (J 525 0 + e_n 1), ?_, ⟨?_, ?_, ?_, ?_, ?_⟩, wm, fun s s1 s2 s3 => e_u_na s3, fun k k1 k2 => by rw [e_u_na (by decide)]⟩
    · rw [C288_52 (fun h => absurd h hn) (fun h => absurd h hn) (fun h => absurd h hn), if_neg hn]
    · rw [e_u_na (by decide)]; exact f1
    · rw [e_u_na (by decide)]; exact f2
    · intro j hj j0 jj; rw [e_u_ne j0]; exact f3 j hj j0 jj
    · intro p hp; rw [e_u_ne (by omega)]; exact f4 p hp
    · rw [e_u_same, f5, e_n_succ]
  | succ k ih =>
    intro p q J hp hB hL wm
    have hpb : p < bPe B := by omega
    have hpe : J 489 4 = e_n (bPe B : Nat) := hB.2.2.2.1
    obtain ⟨f1, f2, f3, f4, f5⟩ := id hL
    obtain ⟨a, ha, hat⟩ := wm.2.1 p hpb
    have i4 : (e_n 4 + e_n (p : Nat)).toNatClampNeg = 4 + p := ix (a := 4) (by omega)
    have i22 : (e_n 22 + e_n (p : Nat)).toNatClampNeg = 22 + p := ix (a := 22) (by omega)
    have h22 : J 525 (22 + p) = e_n (a : Nat) := by rw [f3 _ (by omega) (by omega) (by omega), hat]
    have ga : InR (J 525 (22 + p)) 8 := by rw [h22]; exact InR_n (by omega) (by omega) (by omega)
    have han : (e_n (a : Nat)).toNatClampNeg = a := e_n_nat' (by omega)
    have g22 : InR (e_n 22 + e_n (p : Nat)) 34 := ixI (a := 22) (by omega) (by decide)
    have hdg : J 490 a = bR B 1 a := hB.2.2.2.2.2.2.2.1 a ha
    rw [C288_52 (fun _ => ixI (a := 4) (by omega) (by decide)) (fun _ _ _ => g22) (fun _ _ _ => by rw [i22]; exact ga), if_pos (by rw [hpe, e_n_ltN (by omega) (by omega)]; exact hpb), i4, i22, h22, han, hdg, f3 1 (by decide) (by decide) (by decide), show itr (fd1 B) (k + 1) p q = itr (fd1 B) k (p + 1) (fd1 B p q) from rfl, e_n_succ]
    have skip : ¬ huC B (q.2 0) p → ∃ J', e_L (d + 3) 288 52 [.ref 489, .int x1, .int x2, .int (e_n ((p + 1 : Nat) : Nat))] [] (mk J z) = some (.inl none, mk J' z) ∧ LR J' B (itr (fd1 B) k (p + 1) (fd1 B p q)) (D + 1) ∧ WM B ((itr (fd1 B) k (p + 1) (fd1 B p q)).2 0) ∧ LRf J J' := fun hu => by
      have hfd : fd1 B p q = q := by unfold fd1; rw [if_neg hu]
      rw [hfd]
      exact ih (p + 1) q J (by omega) hB hL wm
    by_cases h1 : q.2 0 (4 + p) = e_n (-1)
    · rw [if_pos ((f4 p (by omega)).mpr h1)]
      exact skip (fun h => h.1 h1)
    · rw [if_neg (fun h => h1 ((f4 p (by omega)).mp h))]
      have hs := shr_bit (q.2 0 1) (show p < 32 by omega)
      by_cases h2 : bt (q.2 0 1) p = true
      · rw [if_pos (hs.mpr h2)]
        exact skip (fun h => h.2.1 h2)
      · rw [if_neg (fun h => h2 (hs.mp h))]
        by_cases h3 : bR B 1 a = e_n (-1)
        · rw [if_pos h3]
          exact skip (fun h => h.2.2 (by rw [hat, han]; exact h3))
        · have hu : huC B (q.2 0) p := ⟨h1, h2, by rw [hat, han]; exact h3⟩
          have hfd : fd1 B p q = (drS q.1, if drV (drS q.1) (e_n 10) < bR B 1 a then dieS B p q.2 else q.2) := by unfold fd1; rw [if_pos hu, hat, han]
          have hg : ∀ G : Nat → Nat → Int32, G 525 = J 525 → G 490 = J 490 → e_L (d + 3) 288 104 [.ref 489, .int x1, .int x2, .int (e_n (p : Nat))] [.int (drV (drS q.1) (e_n ((10 : Nat) : Nat)))] (mk G z) = (if drV (drS q.1) (e_n ((10 : Nat) : Nat)) < bR B 1 a then (e_rV (e_E (d + 3) 230 [.ref 489, .ref 525, .int (e_n (p : Nat))] (mk G z)) (fun σ => e_L (d + 3) 288 130 [.ref 489, .int x1, .int x2, .int (e_n (p : Nat))] [] σ) (e_H (e_L (d + 3) 288) 288 127 [.ref 489, .int x1, .int x2, .int (e_n (p : Nat))])) else e_L (d + 3) 288 52 [.ref 489, .int x1, .int x2, .int (e_n ((p + 1 : Nat) : Nat))] [] (mk G z)) := by
            intro G g1 g2
            rw [C288_104 g22 (by rw [i22, g1]; exact ga), i22, g1, g2, h22, han, hdg, e_n_succ]
          rw [if_neg h3, show (e_n 10) = e_n ((10 : Nat) : Nat) from rfl, c287h (by decide) (by decide), e_rI_i, f1, hg _ (e_u_na (by decide)) (e_u_na (by decide))]
          have hL1 : LR (e_u J 489 79 (drS q.1)) B (drS q.1, q.2) D := LR_u hL
          have hB1 : RB (e_u J 489 79 (drS q.1)) B := LRf_RB LRf_u hB
          by_cases hlt : drV (drS q.1) (e_n ((10 : Nat) : Nat)) < bR B 1 a
          · have hfd' : fd1 B p q = (drS q.1, dieS B p q.2) := by rw [hfd, if_pos (show drV (drS q.1) (e_n 10) < _ from hlt)]
            have hd : bt (q.2 0 1) p = false := by simpa using h2
            obtain ⟨J1, a1, a2, a3⟩ := c230k (d := d) (z := z) (q := (drS q.1, q.2)) wb wm hB1 hL1 hpb hd
            obtain ⟨J2, b1, b2, b3, b4⟩ := ih (p + 1) (drS q.1, dieS B p q.2) J1 (by omega) (LRf_RB a3 hB1) a2 (wm_die wb wm hpb hd).1
            rw [if_pos hlt, a1, e_rV_n, C288_130, e_n_succ, hfd']
            exact ⟨J2, b1, b2, b3, LRf_tr LRf_u (LRf_tr a3 b4)⟩
          · have hfd' : fd1 B p q = (drS q.1, q.2) := by rw [hfd, if_neg (show ¬ drV (drS q.1) (e_n 10) < _ from hlt)]
            obtain ⟨J2, b1, b2, b3, b4⟩ := ih (p + 1) (drS q.1, q.2) _ (by omega) hB1 hL1 wm
            rw [if_neg hlt, hfd']
            exact ⟨J2, b1, b2, b3, LRf_tr LRf_u b4⟩
theorem c288h {d D : Nat} {z : e_Z} {B : e_B} {q : Int32 × e_T} {J : Nat → Nat → Int32} (wb : WB B) (hD : D < 1000) (hm : 0 < bMa B) (hp : 0 < bPe B) (hB : RB J B) (hL : LR J B q D) (wm : WM B (q.2 0)) :
    ∃ J', e_E (d + 4) 288 [.ref 489] (mk J z) = some (.inl none, mk J' z) ∧ LR J' B (daS B q) (D + 1) ∧ WM B ((daS B q).2 0) ∧ LRf J J' := by
  have wb1 : bMa B ≤ 3 := wb.1
  have wb4 : bPe B ≤ 9 := wb.2.2.2.1
  obtain ⟨m, hmm, hme⟩ := drV_n (drS q.1) hm (by omega)
  obtain ⟨k, hk, hke⟩ := drV_n (drS (drS q.1)) hp (by omega)
  have hma : J 489 1 = e_n (bMa B : Nat) := hB.1
  have hpe : J 489 4 = e_n (bPe B : Nat) := hB.2.2.2.1
  have hL2 : LR (e_u (e_u J 489 79 (drS q.1)) 489 79 (drS (drS q.1))) B (drS (drS q.1), q.2) D := LR_u (q := (drS q.1, q.2)) (LR_u hL)
  have hF2 : LRf J (e_u (e_u J 489 79 (drS q.1)) 489 79 (drS (drS q.1))) := LRf_tr LRf_u LRf_u
  generalize hG : e_u (e_u J 489 79 (drS q.1)) 489 79 (drS (drS q.1)) = G at hL2 hF2
  have hB2 : RB G B := LRf_RB hF2 hB
  have i4 : (e_n 4 + e_n (k : Nat)).toNatClampNeg = 4 + k := ix (a := 4) (by omega)
  have i13 : (e_n 13 + e_n (k : Nat)).toNatClampNeg = 13 + k := ix (a := 13) (by omega)
  obtain ⟨f1, f2, f3, f4, f5⟩ := id hL2
  -- the name
  have hnm : LR (if G 525 (4 + k) = e_n (-1) then if G 525 3 = e_n 1 then e_u (e_u G 525 (4 + k) (G 525 0)) 525 (13 + k) (e_n (m : Nat)) else G else G) B (nmS B q) D ∧ LRf G (if G 525 (4 + k) = e_n (-1) then if G 525 3 = e_n 1 then e_u (e_u G 525 (4 + k) (G 525 0)) 525 (13 + k) (e_n (m : Nat)) else G else G) := by
    have hnS : nmS B q = (drS (drS q.1), if q.2 0 (4 + k) = e_n (-1) ∧ q.2 0 3 = e_n 1 then entS q.2 k (e_n (m : Nat)) else q.2) := by
      unfold nmS; rw [hke, hme, e_n_nat' (by omega)]
    rw [hnS]
    have h4 := f4 k (by omega)
    have h3 : G 525 3 = q.2 0 3 := f3 3 (by decide) (by decide) (by decide)
    by_cases c1 : q.2 0 (4 + k) = e_n (-1)
    · by_cases c2 : q.2 0 3 = e_n 1
      · rw [if_pos (h4.mpr c1), if_pos (h3.trans c2), if_pos ⟨c1, c2⟩]
        obtain ⟨t, ht, h0, -⟩ := wm.1
        refine ⟨⟨?_, ?_, ?_, ?_, ?_⟩, fun s s1 s2 s3 => by rw [e_u_na s3, e_u_na s3], fun k k1 k2 => by rw [e_u_na (by decide), e_u_na (by decide)]⟩
        · rw [e_u_na (by decide), e_u_na (by decide)]; exact f1
        · rw [e_u_na (by decide), e_u_na (by decide)]
          show _ = entS q.2 k (e_n (m : Nat)) 4 1
          rw [entr _ _ _ (show 4 ≠ 0 by decide)]; exact f2
        · intro j hj j0 jj
          show _ = entS q.2 k (e_n (m : Nat)) 0 j
          rw [e_u_at, e_u_at, ent0]
          by_cases j1 : j = 13 + k
          · rw [if_pos j1, if_pos j1]
          · rw [if_neg j1, if_neg j1, if_neg (by omega), if_neg (by omega)]; exact f3 j hj j0 jj
        · intro p hp9
          show _ ↔ entS q.2 k (e_n (m : Nat)) 0 (4 + p) = _
          rw [e_u_at, e_u_at, ent0, if_neg (show ¬ 4 + p = 13 + k by omega), if_neg (show ¬ 4 + p = 13 + k by omega), f5, h0]
          by_cases j1 : p = k
          · rw [if_pos (show 4 + p = 4 + k by omega), if_pos (show 4 + p = 4 + k by omega)]
            exact ⟨fun h => absurd h (e_n_neg1 (by omega)), fun h => absurd h (e_n_neg1 (by omega))⟩
          · rw [if_neg (show ¬ 4 + p = 4 + k by omega), if_neg (show ¬ 4 + p = 4 + k by omega)]; exact f4 p hp9
        · rw [e_u_ne (by omega), e_u_ne (by omega)]; exact f5
      · rw [if_pos (h4.mpr c1), if_neg (fun h => c2 (h3.symm.trans h)), if_neg (fun h => c2 h.2)]
        exact ⟨hL2, fun _ _ _ _ => rfl, fun _ _ _ => rfl⟩
    · rw [if_neg (fun h => c1 (h4.mp h)), if_neg (fun h => c1 h.1)]
      exact ⟨hL2, fun _ _ _ _ => rfl, fun _ _ _ => rfl⟩
  obtain ⟨hL3, hF3⟩ := hnm
  obtain ⟨J', b1, b2, b3, b4⟩ := c288l (d := d) (z := z) (x1 := e_n (m : Nat)) (x2 := e_n (k : Nat)) wb hD (bPe B) 0 (nmS B q) _ (by omega) (LRf_RB hF3 hB2) hL3 (wm_nm wb hm hp wm)
  refine ⟨J', e_E_ret (d := d + 3) ?_, b2, b3, LRf_tr hF2 (LRf_tr hF3 b4)⟩
  show e_L (d + 3) 288 0 [.ref 489, .null, .null, .null] [] (mk J z) = _
  rw [C288_0, hma, c287h hm (by omega), e_rI_i, C288_8, e_u_ne (by decide), hpe, c287h hp (by omega), e_rI_i, hL.1, e_u_same, hme, hke, hG, C288_17 (ixI (a := 4) (by omega) (by decide)) (fun _ _ => ixI (a := 13) (by omega) (by decide)), i4, i13]
  exact b1
end S99o
