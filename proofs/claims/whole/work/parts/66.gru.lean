section S66
def RB (I : Nat → Nat → Int32) (B : e_B) : Prop :=
  I 489 1 = e_n (bMa B : Nat) ∧ I 489 2 = e_n (bPl B : Nat) ∧ I 489 3 = e_n (bWy B : Nat) ∧ I 489 4 = e_n (bPe B : Nat) ∧ I 489 5 = e_n (bKi B : Nat) ∧ I 489 6 = e_n (bTi B : Nat)
  ∧ I 489 7 = (if bO B = [] then e_n (-1) else e_n 0)
  ∧ (∀ a, a < bPl B → I 490 a = bR B 1 a) ∧ (∀ w, w < bWy B → I 491 w = bR B 2 w ∧ I 492 w = bR B 3 w ∧ I 493 w = bR B 4 w)
  ∧ (∀ p, p < bPe B → I 494 p = bR B 5 p ∧ I 495 p = bR B 6 p) ∧ (∀ k, k < bTi B → I 496 k = bR B 7 k ∧ I 497 k = bR B 8 k ∧ I 498 k = bR B 9 k)
  ∧ (enc (bO B)).length < 1400 ∧ (¬ bO B = [] → ∀ j, j ≤ (enc (bO B)).length → I 499 j = (enc (bO B) ++ [e_n 0]).getD j 0)
theorem RB_fr {I I' : Nat → Nat → Int32} {B : e_B} (h0 : ∀ k, 1 ≤ k → k ≤ 7 → I' 489 k = I 489 k) (h : ∀ r, 490 ≤ r → r ≤ 499 → I' r = I r) (H : RB I B) : RB I' B := by
  unfold RB at *
  rw [h0 1 (by decide) (by decide), h0 2 (by decide) (by decide), h0 3 (by decide) (by decide), h0 4 (by decide) (by decide), h0 5 (by decide) (by decide), h0 6 (by decide) (by decide), h0 7 (by decide) (by decide), h 490 (by decide) (by decide), h 491 (by decide) (by decide), h 492 (by decide) (by decide), h 493 (by decide) (by decide), h 494 (by decide) (by decide), h 495 (by decide) (by decide), h 496 (by decide) (by decide), h 497 (by decide) (by decide), h 498 (by decide) (by decide), h 499 (by decide) (by decide)]
  exact H
theorem R2_ge {r : Nat} (h : R2 r) : r = 515 ∨ r = 525 := h
/-- an index of a row -/
theorem ix {a p : Nat} (h : a + p < 2147483648) : (e_n (a : Nat) + e_n (p : Nat)).toNatClampNeg = a + p := by
  rw [e_n_add, show ((a : Nat) : Int) + (p : Nat) = ((a + p : Nat) : Int) by omega]; exact e_n_nat' h
theorem ixI {a p n : Nat} (h : a + p < n) (hn : n ≤ 2147483648) : InR (e_n (a : Nat) + e_n (p : Nat)) n := by
  rw [e_n_add]; exact InR_n (by omega) (by omega) (by omega)
theorem c223h {d r : Nat} {I : Nat → Nat → Int32} {z : e_Z} {B : e_B} {M : Nat → Int32} (hr : R2 r) (wb4 : bPe B ≤ 9) (hp : I 489 4 = e_n (bPe B : Nat)) (hM : ∀ j, j < 34 → I r j = M j) : e_E (d + 1) 223 [.ref 489, .ref r] (mk I z) = some (.inl (some (.int (lm B M))), mk I z) := by
  refine e_E_ret (d := d) ((C223_0 hr).trans ((loopI (fun (i x2 : Int32) => e_L d 223 4 [.ref 489, .ref r, .int x2, .int i] [] (mk I z)) (bPe B) (by omega) (fun p q => q ||| (if M (4 + p) = e_n (-1) then e_n 0 else e_shl (e_n 1) (e_n (p : Nat)))) (fun i a hi => ?_) (e_n 0)).trans ?_))
  · refine (C223_4 hr (fun _ => ixI (a := 4) (by omega) (by decide))).trans ?_
    rw [if_pos (by rw [hp, e_n_ltN (by omega) (by omega)]; exact hi), show (e_n 4 + e_n (i : Nat)).toNatClampNeg = 4 + i from ix (a := 4) (by omega), hM _ (by omega)]
  · refine (C223_4 hr (fun h => absurd h (by rw [hp, e_n_ltN (by omega) (by omega)]; omega))).trans ?_
    rw [if_neg (by rw [hp, e_n_ltN (by omega) (by omega)]; omega)]
    rfl
theorem c226h {d : Nat} {I : Nat → Nat → Int32} {z : e_Z} {B : e_B} {x1 x2 : Int32} (wb6 : bTi B ≤ 12) (hB : RB I B) : e_E (d + 1) 226 [.ref 489, .int x1, .int x2] (mk I z) = some (.inl (some (.int (fm B x1 x2))), mk I z) := by
  obtain ⟨-, -, -, -, -, ht, -, -, -, -, hk, -⟩ := hB
  refine e_E_ret (d := d) (C226_0.trans ((loopI (fun (i x3 : Int32) => e_L d 226 5 [.ref 489, .int x1, .int x2, .int x3, .int i] [] (mk I z)) (bTi B) (by omega) (fun k q => q ||| (if bR B 7 k = x1 then if bR B 9 k = x2 then e_shl (e_n 1) (bR B 8 k) else e_n 0 else e_n 0)) (fun i a hi => ?_) (e_n 0)).trans ?_))
  · refine (C226_5 (fun _ => InR_n (by omega) (by omega) (by omega))).trans ?_
    rw [if_pos (by rw [ht, e_n_ltN (by omega) (by omega)]; exact hi), e_n_nat' (by omega), (hk i hi).1, (hk i hi).2.1, (hk i hi).2.2]
  · refine (C226_5 (fun h => absurd h (by rw [ht, e_n_ltN (by omega) (by omega)]; omega))).trans ?_
    rw [if_neg (by rw [ht, e_n_ltN (by omega) (by omega)]; omega)]
    rfl
theorem v181_bc (I : Nat → Nat → Int32) (x : Int32) : v181 I x = bc x := rfl
theorem c227h {d r m p : Nat} {I : Nat → Nat → Int32} {z : e_Z} {B : e_B} {M : Nat → Int32} (hr : R2 r) (wb : WB B) (hB : RB I B) (hM : ∀ j, j < 34 → I r j = M j) (hm : m < bMa B) (hp : p < bPe B) : ∃ I', e_E (d + 3) 227 [.ref 489, .ref r, .int (e_n (m : Nat)), .int (e_n (p : Nat))] (mk I z) = some (.inl (some (.int (grS B M m p))), mk I' z) ∧ ∀ q, q ≠ 517 → q ≠ 518 → I' q = I q := by
  have wb1 : bMa B ≤ 3 := wb.1
  have wb4 : bPe B ≤ 9 := wb.2.2.2.1
  have wb6 : bTi B ≤ 12 := wb.2.2.2.2.2.1
  have wb9 : bO B = [] ∨ okO (bO B) 0 = true := wb.2.2.2.2.2.2.2.2.2.2.2.2.1
  have hr2 : r ≠ 517 := by rcases hr with rfl | rfl <;> decide
  obtain ⟨-, -, -, b4, -, -, b7, -, -, b10, -, b12, b13⟩ := id hB
  have gp : InR (e_n (p : Nat)) 9 := InR_n (by omega) (by omega) (by omega)
  have hpn : (e_n (p : Nat)).toNatClampNeg = p := e_n_nat' (by omega)
  suffices hx : ∃ I', e_L (d + 2) 227 0 [.ref 489, .ref r, .int (e_n (m : Nat)), .int (e_n (p : Nat)), .null] [] (mk I z) = some (.inl (some (.int (grS B M m p))), mk I' z) ∧ ∀ q, q ≠ 517 → q ≠ 518 → I' q = I q by
    obtain ⟨I', h1, h2⟩ := hx
    exact ⟨I', e_E_ret (d := d + 2) h1, h2⟩
  rw [C227_0 hr (fun _ => gp), b7]
  by_cases hn : bO B = []
  · rw [if_pos hn, if_pos rfl, hpn, (b10 p hp).1]
    refine ⟨I, ?_, fun _ _ _ => rfl⟩
    unfold grS; rw [if_pos hn]
  · rw [if_neg hn, if_neg (by decide), c223h hr wb4 b4 hM, e_rI_i, C227_20 hr gp (ixI (a := 31) (by omega) (by decide))]
    have hm31 : (e_n 31 + e_n (m : Nat)).toNatClampNeg = 31 + m := ix (a := 31) (by omega)
    rw [hpn, (b10 p hp).1, hm31, e_u_na hr2, hM _ (by omega)]
    have rb : ∀ J : Nat → Nat → Int32, (∀ q, q ≠ 517 → J q = I q) → RB J B := fun J hJ => RB_fr (fun k _ _ => by rw [hJ 489 (by decide)]) (fun q _ _ => hJ q (by omega)) hB
    rw [c226h wb6 (rb _ (fun q hq => by rw [e_u_na hq, e_u_na hq])), e_rI_i, C227_57 hr (InR_n (a := 2) (by decide) (by decide) (by decide)), shr_val _ (show p < 32 by omega)]
    rw [c226h wb6 (rb _ (fun q hq => by rw [e_u_na hq, e_u_na hq, e_u_na hq])), e_rI_i, C227_73 hr (InR_n (a := 3) (by decide) (by decide) (by decide)) gp, shr_val _ (show p < 32 by omega), hpn]
    simp only [v181_bc, show (e_n 2).toNatClampNeg = 2 from by decide, show (e_n 3).toNatClampNeg = 3 from by decide]
    simp (disch := first | exact hr2 | decide) only [e_u_na, (b10 p hp).2, hM 0 (by decide), hM 2 (by decide), b7]
    generalize hJ : (e_u (e_u (e_u (e_u (e_u (e_u (e_u (e_u I 517 0 (bR B 5 p)) 517 1 (M (31 + m))) 517 2 (tf (bt (fm B (e_n (m : Nat)) (e_n 0)) p = true))) 517 3 (tf (bt (fm B (e_n (m : Nat)) (e_n 1)) p = true))) 517 4 (bc (bR B 6 p &&& lm B M))) 517 5 (bc (lm B M))) 517 6 (M 0)) 517 7 (M 2)) = J
    have hJq : ∀ q, q ≠ 517 → J q = I q := fun q hq => by subst hJ; simp (disch := exact hq) only [e_u_na]
    have hJ8 : ∀ k, k < 8 → J 517 k = fct B M m p k := by
      intro k hk
      subst hJ
      match k, hk with
      | 0, _ => simp [e_u_at, fct]
      | 1, _ => simp [e_u_at, fct]
      | 2, _ => simp [e_u_at, fct]
      | 3, _ => simp [e_u_at, fct]
      | 4, _ => simp [e_u_at, fct]
      | 5, _ => simp [e_u_at, fct]
      | 6, _ => simp [e_u_at, fct]
      | 7, _ => simp [e_u_at, fct]
    obtain ⟨I', h1, h2⟩ := c222h (d := d) (z := z) (x1 := e_n 0) (fct B M m p) (bO B) 0 [] J .null (by omega) (fun j hj => by rw [hJq _ (by decide), Nat.zero_add]; exact b13 hn j hj) hJ8 (wb9.resolve_left hn) (by simp) (fun k hk => absurd hk (by simp))
    refine ⟨I', ?_, fun q q1 q2 => by rw [h2 q q2, hJq q q1]⟩
    have h3 : e_E (d + 2) 222 [.ref 489, .int (e_n 0)] (mk J z) = some (.inl (some (.int ((ev (fct B M m p) (bO B) []).headD 0))), mk I' z) := e_E_ret (d := d + 1) (C222_0.trans h1)
    rw [if_neg hn, h3, e_rI_i, C227_135 hr]
    unfold grS
    rw [if_neg hn]
end S66
