/-! scribe and tells: face to face -/
section S96
/-- a pair of the scribe's in the reference, seen or not -/
theorem rp_step {d t n ns p c : Nat} {J : Nat → Nat → Int32} {z : e_Z} {B : e_B} {M w : Nat → Int32} (H : Rel J z B) (hM : J 515 = M) (hw : J 532 = w) (ht : t ≤ 60) (hd : M 0 = e_n (t : Nat)) (hn : min 30 (60 - t) = n) (h76 : J 489 76 = e_n (ns : Nat)) (hns8 : ns ≤ 8) (hp : p < bPe B) (hc : c < 10) :
    ∃ I2, e_E (d + 7) 280 [.ref 489, .int (e_n (p : Nat)), .int (e_n (c : Nat))] (mk J z) = some (.inl (some (.int (if wiF B M n p c then e_n 1 else e_n 0))), mk I2 z) ∧ RfE J I2 ∧ I2 489 0 = J 489 0 ∧ I2 515 = M ∧ (∀ r, r ≠ 489 → (r < 515 ∨ 525 < r) → I2 r = J r) ∧ (wiF B M n p c = true → e_E (d + 7) 279 [.ref 489] (mk I2 z) = some (.inl (some (.int (tf (okW B M n w ns p c = true)))), mk I2 z) ∧ RF I2 525 (wiS B M n p c) n) := by
  have wb := rel_wb H
  have wb4 : bPe B ≤ 9 := wb.2.2.2.1
  have hn30 : n ≤ 30 := by omega
  obtain ⟨I2, a1, a2, a3, a4, a5, a6⟩ := c280h (d := d) (c := c) H hM ht hd hp (by omega)
  rw [hn] at a1 a6
  refine ⟨I2, a1, a2, a3, a4, a5, fun hwf => ?_⟩
  have hF := a6 hwf
  have hv : v236 I2 = e_n (n : Nat) := by rw [v236_n ht (by rw [a4]; exact hd), hn]
  have hp4 : I2 489 4 = e_n (bPe B : Nat) := by rw [a2.2 4 (by unfold ScrF; omega)]; exact (rel_rb H).2.2.2.1
  obtain ⟨ns', hns', -, s76, hs⟩ := rel_se H
  have hnn : ns' = ns := by
    have := s76.symm.trans h76
    rw [e_n_inj (by omega) (by omega) (by omega) (by omega)] at this; omega
  have h532 : I2 532 = w := by rw [a5 532 (by decide) (by omega), hw]
  have e79 := c279h (d := d + 3) (z := z) (I := I2) (ns := ns') wb hn30 hv hp4 hF (fun h0 => last_wi wb4 hn30 h0) (by rw [a2.2 76 (by unfold ScrF; omega)]; exact s76) hns' (by rw [h532, ← hw]; exact fun k hk => ⟨(hs k hk).1.2, (hs k hk).2.1.2⟩)
  rw [h532, hnn] at e79
  refine ⟨?_, hF⟩
  rw [e79]
  have : okW B M n w ns p c = al (seC B (wiS B M n p c) n w) ns 0 := by unfold okW; rw [hwf, Bool.true_and]
  rw [this]
/-- what the reference's rows of lists hold -/
def IvR (n : Nat) (J J' : Nat → Nat → Int32) (M : Nat → Int32) (T : e_W) (b : Bool) : Prop :=
  RfE J J' ∧ J' 489 0 = e_n 0 ∧ J' 515 = M ∧ (b = true → ∀ a, a < T.1 → ∀ i, i < 30 → J' 533 (30 * a + i) = T.2.2 (30 * a + i))
/-- lists behind the last morning are as at its end -/
def tlW (n : Nat) (T : e_W) : Prop := (0 < T.1 → 0 < n) ∧ ∀ a, a < T.1 → ∀ i, n ≤ i → i < 30 → T.2.2 (30 * a + i) = T.2.2 (30 * a + (n - 1))
theorem tl_st {B : e_B} {M : Nat → Int32} {n : Nat} {w : Nat → Int32} {ns p c : Nat} {T : e_W} (wb4 : bPe B ≤ 9) (hn : n ≤ 30) (H : tlW n T) : tlW n (stW B M n w ns p c T) := by
  unfold stW
  by_cases h : okW B M n w ns p c = true
  · rw [if_pos h]
    have hw : wiF B M n p c = true := by
      unfold okW at h; rw [Bool.and_eq_true] at h; exact h.1
    have hcn := (of_decide_eq_true hw).1
    refine ⟨fun _ => by omega, fun a ha i h1 h2 => ?_⟩
    have ha : a < T.1 + 1 := ha
    show (if _ then _ else _) = (if _ then _ else _)
    by_cases haN : a = T.1
    · subst haN
      rw [if_pos (by omega), if_pos (by omega), show 30 * T.1 + i - 30 * T.1 = i by omega, show 30 * T.1 + (n - 1) - 30 * T.1 = n - 1 by omega]
      unfold LB
      rw [if_neg (by omega), if_pos (by omega), last_wi wb4 hn (by omega)]
    · rw [if_neg (by omega), if_neg (by omega)]
      exact H.2 a (by omega) i h1 h2
  · rw [if_neg h]; exact H
theorem tl_all {B : e_B} {M : Nat → Int32} {n : Nat} {w : Nat → Int32} {ns : Nat} (wb4 : bPe B ≤ 9) (hn : n ≤ 30) : tlW n (alW B M n w ns) := by
  unfold alW
  refine itr_inv (fun _ T => tlW n T) (n := bPe B) (f := fun p T => inW B M n w ns p T) (s := W0) ⟨fun h => absurd h (Nat.lt_irrefl 0), fun a ha => absurd ha (Nat.not_lt_zero a)⟩ ?_
  intro p T hp h
  unfold inW
  exact itr_inv (fun _ T => tlW n T) (n := 10) (f := fun c T => stW B M n w ns p c T) (s := T) h (fun c T _ h => tl_st wb4 hn h)
/-- scribe's loops in the reference -/
theorem c281l {d t n ns : Nat} {x1 : Int32} {J : Nat → Nat → Int32} {z : e_Z} {B : e_B} {M : Nat → Int32} (H : Rel J z B) (hM : J 515 = M) (ht : t ≤ 60) (hd : M 0 = e_n (t : Nat)) (hn : min 30 (60 - t) = n) (h76 : J 489 76 = e_n (ns : Nat)) (hns : ns ≤ 8) :
    ∃ I2, e_L (d + 7) 281 45 [.ref 489, .int x1, .int (e_n 0), .int (e_n (-1)), .int (e_n 0), .null] [] (mk (e_u J 489 0 (e_n 0)) z) = some (.inl (some (.int (if x1 = 0 then e_n ((alW B M n (J 532) ns).1 : Nat) else (alW B M n (J 532) ns).2.1))), mk I2 z) ∧ RfE J I2 ∧ I2 489 0 = e_n 0 := by
  have wb4 : bPe B ≤ 9 := (rel_wb H).2.2.2.1
  have hstep : ∀ p c T J', p < bPe B → c < 10 → IvR n J J' M T false → ∃ I2, e_L (d + 7) 281 57 [.ref 489, .int x1, .int (e_n (T.1 : Nat)), .int T.2.1, .int (e_n (p : Nat)), .int (e_n (c : Nat))] [] (mk J' z) = e_L (d + 7) 281 57 [.ref 489, .int x1, .int (e_n ((stW B M n (J 532) ns p c T).1 : Nat)), .int (stW B M n (J 532) ns p c T).2.1, .int (e_n (p : Nat)), .int (e_n ((c + 1 : Nat) : Nat))] [] (mk I2 z) ∧ IvR n J I2 M (stW B M n (J 532) ns p c T) false := by
    intro p c T J' hp hc hI
    obtain ⟨i1, i2, i3, -⟩ := hI
    have H' : Rel J' z B := Rel_r rfl i1.1 i1.2 H
    obtain ⟨I2, a1, a2, a3, a4, a5, a6⟩ := rp_step (d := d) (w := J 532) H' i3 (i1.1 532 (by decide) (by unfold ScrR; omega)) ht hd hn (by rw [i1.2 76 (by unfold ScrF; omega)]; exact h76) hns hp hc
    have hfin : IvR n J I2 M (stW B M n (J 532) ns p c T) false := ⟨RfE_tr i1 a2, by rw [a3, i2], a4, fun h => by cases h⟩
    refine ⟨I2, ?_, hfin⟩
    rw [C281_57, if_pos (by rw [show (e_n 10) = e_n ((10 : Nat) : Nat) from rfl, e_n_ltN (by omega) (by omega)]; exact hc), a1, e_rI_i, C281_72]
    by_cases hw : wiF B M n p c = true
    · rw [if_pos hw, if_neg (by decide), (a6 hw).1, e_rI_i, C281_79]
      have hx : e_n 100 * e_n (p : Nat) + e_n (c : Nat) = e_n ((100 * p + c : Nat) : Nat) := by rw [e_n_mul, e_n_add]; congr 1
      by_cases ho : okW B M n (J 532) ns p c = true
      · have hst : stW B M n (J 532) ns p c T = (T.1 + 1, if T.2.1 = e_n (-1) then e_n ((100 * p + c : Nat) : Nat) else T.2.1, fun j => if 30 * T.1 ≤ j ∧ j < 30 * T.1 + 30 then LB B (wiS B M n p c) n (j - 30 * T.1) else T.2.2 j) := by unfold stW; rw [if_pos ho]
        have ht0 : ¬ tf (okW B M n (J 532) ns p c = true) = 0 := by rw [tf_eq0]; exact fun q => q ho
        rw [if_neg ht0, if_neg ht0, hx, e_n_succ, e_n_succ, hst]
      · have hst : stW B M n (J 532) ns p c T = T := by unfold stW; rw [if_neg ho]
        have ht0 : tf (okW B M n (J 532) ns p c = true) = 0 := by rw [tf_eq0]; exact ho
        rw [if_pos ht0, if_pos ht0, e_n_succ, hst]
    · have ho : ¬ okW B M n (J 532) ns p c = true := fun h => by
        unfold okW at h; rw [Bool.and_eq_true] at h; exact hw h.1
      have hst : stW B M n (J 532) ns p c T = T := by unfold stW; rw [if_neg ho]
      rw [if_neg hw, if_pos (by decide), e_n_succ, hst]
  have hinner : ∀ p, p < bPe B → ∀ k c T J', c + k = 10 → IvR n J J' M T false → ∃ I2, e_L (d + 7) 281 57 [.ref 489, .int x1, .int (e_n (T.1 : Nat)), .int T.2.1, .int (e_n (p : Nat)), .int (e_n (c : Nat))] [] (mk J' z) = e_L (d + 7) 281 45 [.ref 489, .int x1, .int (e_n ((itr (fun c T => stW B M n (J 532) ns p c T) k c T).1 : Nat)), .int (itr (fun c T => stW B M n (J 532) ns p c T) k c T).2.1, .int (e_n ((p + 1 : Nat) : Nat)), .int (e_n 10)] [] (mk I2 z) ∧ IvR n J I2 M (itr (fun c T => stW B M n (J 532) ns p c T) k c T) false := by
    intro p hp k
    induction k with
    | zero =>
      intro c T J' hc hI
      have : c = 10 := by omega
      subst this
      refine ⟨J', ?_, hI⟩
      rw [C281_57, if_neg (by decide), e_n_succ]; rfl
    | succ k ih =>
      intro c T J' hc hI
      obtain ⟨I2, a1, a2⟩ := hstep p c T J' hp (by omega) hI
      obtain ⟨I3, b1, b2⟩ := ih (c + 1) _ I2 (by omega) a2
      exact ⟨I3, a1.trans b1, b2⟩
  have houter : ∀ k p T J' (u : Value), p + k = bPe B → IvR n J J' M T false → ∃ I2, e_L (d + 7) 281 45 [.ref 489, .int x1, .int (e_n (T.1 : Nat)), .int T.2.1, .int (e_n (p : Nat)), u] [] (mk J' z) = some (.inl (some (.int (if x1 = 0 then e_n ((itr (fun p T => inW B M n (J 532) ns p T) k p T).1 : Nat) else (itr (fun p T => inW B M n (J 532) ns p T) k p T).2.1))), mk I2 z) ∧ IvR n J I2 M (itr (fun p T => inW B M n (J 532) ns p T) k p T) false := by
    intro k
    induction k with
    | zero =>
      intro p T J' u hp hI
      have hpe : J' 489 4 = e_n (bPe B : Nat) := by rw [hI.1.2 4 (by unfold ScrF; omega)]; exact (rel_rb H).2.2.2.1
      refine ⟨J', ?_, hI⟩
      rw [C281_45, hpe, if_neg (by rw [e_n_ltN (by omega) (by omega)]; omega)]; rfl
    | succ k ih =>
      intro p T J' u hp hI
      have hpe : J' 489 4 = e_n (bPe B : Nat) := by rw [hI.1.2 4 (by unfold ScrF; omega)]; exact (rel_rb H).2.2.2.1
      obtain ⟨I2, a1, a2⟩ := hinner p (by omega) 10 0 T J' (by omega) hI
      obtain ⟨I3, b1, b2⟩ := ih (p + 1) (inW B M n (J 532) ns p T) I2 (.int (e_n 10)) (by omega) a2
      refine ⟨I3, ?_, b2⟩
      rw [C281_45, hpe, if_pos (by rw [e_n_ltN (by omega) (by omega)]; omega), show (e_n 0) = e_n ((0 : Nat) : Nat) from rfl, a1]
      exact b1
  obtain ⟨I2, a1, a2⟩ := houter (bPe B) 0 W0 (e_u J 489 0 (e_n 0)) .null (by omega) ⟨RfE_0, e_u_same, by rw [K515 (by decide), hM], fun h => by cases h⟩
  exact ⟨I2, a1, a2.1, a2.2.1⟩
theorem F156 {d : Nat} {c1 : Int32} {I : Nat → Nat → Int32} {z : e_Z} {B : e_B} (H : Rel I z B) {x : Int32} : Face d c1 I z 156 281 [.int x] := by
  have wb := rel_wb H
  have wb4 : bPe B ≤ 9 := wb.2.2.2.1
  obtain ⟨t, ht, hd⟩ := rel_day H
  by_cases hm : x < 0 ∨ ¬ x < e_n 3
  · refine throw_p H ?_ ?_
    · refine (e_E_11 (d := d + 9) (y := 156) rfl).trans ?_
      show e_L (d + 9) 156 0 [.ref 1, .int x] [] (mk I z) = _
      rw [C156_0, if_pos hm]; rfl
    · intro J z2 HJ
      refine ⟨e_n 0, e_E_ret (d := d + 9) ?_⟩
      show e_L (d + 9) 281 0 [.ref 489, .int x, .null, .null, .null, .null] [] (mk J z2) = _
      rw [C281_0, c246n (x2 := e_n 2) (k := 2) rfl (by decide) K0 hm, e_rI_i, C281_11, if_pos (by decide)]
  have hm2 : ¬ (x < 0 ∨ ¬ x < e_n ((2 + 1 : Nat) : Nat)) := hm
  obtain ⟨ns, hns, hs4, h76, hs⟩ := rel_se H
  generalize hn : min 30 (60 - t) = n
  have hn30 : n ≤ 30 := by omega
  have hsc := bd_cases z
  by_cases hx2 : x = e_n 2
  · obtain ⟨I1, a1, a2, a3, a4⟩ := lkC (d := d + 2) (z := z) H ht hd
    rw [hn] at a2
    have e100 := c100h (d := d + 6) (z := zF z z.2.1.1) (ns := ns) wb hn30 a2 (by rw [a4 50 (by unfold ScrC; omega)]; exact hs4) hns (by rw [a4 57 (by unfold ScrC; omega), a4 58 (by unfold ScrC; omega), a4 59 (by unfold ScrC; omega), a4 532 (by unfold ScrC; omega)]; exact hs)
    rw [a4 532 (by unfold ScrC; omega)] at e100
    refine face_rd H (r := .inl (tf (al (seC B (foS B (I 515) n) n (I 532)) ns 0 = true))) (I1 := I1) (zs_F z) rfl (e_E_ret (d := d + 9) ?_) a4 ?_
    · show e_L (d + 9) 156 0 [.ref 1, .int x] [] (mk I z) = _
      rw [C156_0, if_neg hm, if_pos hx2, a1, e_rV_n, C156_14, e100, e_rI_i, C156_25]
      have : ∀ p : Prop, [Decidable p] → tf (¬ tf p = 0) = tf p := fun p _ => by unfold tf; by_cases h : p <;> simp [h, en_10, en_00]
      rw [this]
    · intro J z2 HJ hq
      obtain ⟨I2, b1, b2, b3, b4, b5, b6, b7, b8, b9⟩ := lkR (d := d + 2) (z := z2) (v := e_n 0) HJ (hq 515 (by decide)) ht hd
      rw [hn] at b2
      have hv : v236 I2 = e_n (n : Nat) := by rw [v236_n ht (by rw [b6]; exact hd), hn]
      have h532 : I2 532 = I 532 := by rw [b4.1 532 (by decide) (by unfold ScrR; omega), hq 532 (by decide)]
      have e79 := c279h (d := d + 5) (z := z2) (I := I2) (ns := ns) wb hn30 hv b7.2.2.2.1 b2 (fun h0 => last_fo wb4 hn30 h0) (by rw [b4.2 76 (by unfold ScrF; omega), hq 489 (by decide)]; exact h76) hns (by rw [h532]; exact fun k hk => ⟨(hs k hk).1.2, (hs k hk).2.1.2⟩)
      rw [h532] at e79
      refine ⟨I2, tf (al (seC B (foS B (I 515) n) n (I 532)) ns 0 = true), e_E_ret (d := d + 9) ?_, b4, b5, rfl⟩
      show e_L (d + 9) 281 0 [.ref 489, .int x, .null, .null, .null, .null] [] (mk J z2) = _
      rw [C281_0, c246y (x2 := e_n 2) (k := 2) rfl (by decide) K0 hm2, e_rI_i, C281_11, if_neg (by decide), if_pos hx2, b1, e_rV_n, C281_25, e79, e_rI_i, C281_29]
      have : ∀ p : Prop, [Decidable p] → tf (¬ tf p = 0) = tf p := fun p _ => by unfold tf; by_cases h : p <;> simp [h, en_10, en_00]
      rw [this]
  · obtain ⟨I1, z1, a1, ⟨c1', c2, c3, c4, c5, c6, c7⟩, a3⟩ := c22h (d := d + 2) H ht hd hn h76 hns
    refine face_rd H (r := .inl (if x = 0 then e_n ((alW B (I 515) n (I 532) ns).1 : Nat) else (alW B (I 515) n (I 532) ns).2.1)) (I1 := I1) c2 c3 (e_E_ret (d := d + 9) ?_) c1' ?_
    · show e_L (d + 9) 156 0 [.ref 1, .int x] [] (mk I z) = _
      rw [C156_0, if_neg hm, if_neg hx2, a1, e_rV_n, C156_53, c4, c5]
    · intro J z2 HJ hq
      obtain ⟨I2, b1, b2, b3⟩ := c281l (d := d + 2) (x1 := x) HJ (hq 515 (by decide)) ht hd hn (by rw [hq 489 (by decide)]; exact h76) hns
      rw [hq 532 (by decide)] at b1
      refine ⟨I2, if x = 0 then e_n ((alW B (I 515) n (I 532) ns).1 : Nat) else (alW B (I 515) n (I 532) ns).2.1, e_E_ret (d := d + 9) ?_, b2, b3, rfl⟩
      show e_L (d + 9) 281 0 [.ref 489, .int x, .null, .null, .null, .null] [] (mk J z2) = _
      rw [C281_0, c246y (x2 := e_n 2) (k := 2) rfl (by decide) K0 hm2, e_rI_i, C281_11, if_neg (by decide), if_neg hx2]
      exact b1
end S96
