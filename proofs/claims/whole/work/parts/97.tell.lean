/-! tells: face to face -/
section S97
def neG (G : Nat → Int32) (i a : Nat) (b : Nat) : Bool := decide (¬ G (30 * a + i) = G (30 * b + i))
def unS (T : e_W) (i : Nat) : Nat := cnt T.1 (fun a => al (neG T.2.2 i a) a 0)
theorem cnt_tf {n : Nat} {f : Nat → Bool} : e_n (cnt n f : Nat) + tf (f n = true) = e_n (cnt (n + 1) f : Nat) := by
  rw [cnt_succ]
  unfold tf
  cases f n
  · simp [e_n_add]
  · simp [e_n_add]
theorem c24h {d i n : Nat} {I : Nat → Nat → Int32} {z : e_Z} {T : e_W} (hi : i < n) (hn : n ≤ 30) (hT : T.1 ≤ 90) (h0 : I 481 0 = e_n (T.1 : Nat)) (hG : ∀ a, a < T.1 → ∀ i, i < n → I 482 (30 * a + i) = T.2.2 (30 * a + i)) : e_E (d + 2) 24 [.ref 481, .int (e_n (i : Nat))] (mk I z) = some (.inl (some (.int (e_n (unS T i : Nat)))), mk I z) := by
  have hrd : ∀ a, a < T.1 → rd I 482 (e_n (a : Nat) * e_n 30 + e_n (i : Nat)) = T.2.2 (30 * a + i) := fun a ha => by
    have hl : 30 * a + i < ln 482 := by show 30 * a + i < 2700; omega
    rw [show e_n (a : Nat) * e_n 30 + e_n (i : Nat) = e_n ((30 * a + i : Nat) : Nat) from by rw [e_n_mul, e_n_add]; congr 1; omega, rd_N (r := 482) hl, hG a ha i hi]
  have inner : ∀ r b a (x2 : Int32), b + r = a → a < T.1 → ∃ u4 u5, e_L (d + 1) 24 18 [.ref 481, .int (e_n (i : Nat)), .int x2, .int (e_n (a : Nat)), .int (e_n 1), .int (e_n (b : Nat))] [] (mk I z) = e_L (d + 1) 24 4 [.ref 481, .int (e_n (i : Nat)), .int (x2 + tf (al (neG T.2.2 i a) r b = true)), .int (e_n ((a + 1 : Nat) : Nat)), u4, u5] [] (mk I z) := by
    intro r
    induction r with
    | zero =>
      intro b a x2 hb ha
      rw [C24_18, if_neg (by rw [e_n_ltN (by omega) (by omega)]; omega), e_n_succ]
      exact ⟨_, _, rfl⟩
    | succ r ih =>
      intro b a x2 hb ha
      rw [C24_18, if_pos (by rw [e_n_ltN (by omega) (by omega)]; omega), if_neg (by decide), hrd a ha, hrd b (by omega), e_n_succ]
      unfold al
      by_cases hc : T.2.2 (30 * a + i) = T.2.2 (30 * b + i)
      · have hf : neG T.2.2 i a b = false := decide_eq_false (fun h => h hc)
        rw [hf, Bool.false_and, show tf (¬ T.2.2 (30 * a + i) = T.2.2 (30 * b + i)) = e_n 0 from by unfold tf; rw [if_neg (fun h => h hc)], show tf (false = true) = e_n 0 from by decide]
        rw [C24_18]
        by_cases h2 : b + 1 < a
        · rw [if_pos (by rw [e_n_ltN (by omega) (by omega)]; exact h2), if_pos (by decide), e_n_succ]
          exact ⟨_, _, rfl⟩
        · rw [if_neg (by rw [e_n_ltN (by omega) (by omega)]; exact h2), e_n_succ, show tf (¬ e_n 0 = 0) = e_n 0 from by decide]
          exact ⟨_, _, rfl⟩
      · have hf : neG T.2.2 i a b = true := decide_eq_true hc
        rw [hf, Bool.true_and, show tf (¬ T.2.2 (30 * a + i) = T.2.2 (30 * b + i)) = e_n 1 from by unfold tf; rw [if_pos hc]]
        exact ih (b + 1) a x2 (by omega) ha
  have outer : ∀ r a (u4 u5 : Value), a + r = T.1 → e_L (d + 1) 24 4 [.ref 481, .int (e_n (i : Nat)), .int (e_n (cnt a (fun a => al (neG T.2.2 i a) a 0) : Nat)), .int (e_n (a : Nat)), u4, u5] [] (mk I z) = some (.inl (some (.int (e_n (unS T i : Nat)))), mk I z) := by
    intro r
    induction r with
    | zero =>
      intro a u4 u5 ha
      have : a = T.1 := by omega
      subst this
      rw [C24_4, h0, if_neg (by rw [e_n_ltN (by omega) (by omega)]; omega)]
      rfl
    | succ r ih =>
      intro a u4 u5 ha
      obtain ⟨v4, v5, e⟩ := inner a 0 a (e_n (cnt a (fun a => al (neG T.2.2 i a) a 0) : Nat)) (by omega) (by omega)
      rw [C24_4, h0, if_pos (by rw [e_n_ltN (by omega) (by omega)]; omega), show (e_n 0) = e_n ((0 : Nat) : Nat) from rfl, e, cnt_tf (f := fun a => al (neG T.2.2 i a) a 0)]
      exact ih (a + 1) v4 v5 (by omega)
  exact e_E_ret (d := d + 1) (C24_0.trans (outer T.1 0 .null .null (by omega)))
/-- behind the last morning no list is more unlike -/
theorem un_tl {T : e_W} {n i : Nat} (H : tlW n T) (h1 : n ≤ i) (h2 : i < 30) : unS T i = if 0 < T.1 then unS T (n - 1) else 0 := by
  by_cases h : 0 < T.1
  · rw [if_pos h]
    unfold unS
    refine cnt_congr (fun a ha => ?_)
    have : ∀ k b, b + k ≤ T.1 → al (neG T.2.2 i a) k b = al (neG T.2.2 (n - 1) a) k b := by
      intro k
      induction k with
      | zero => intro b _; rfl
      | succ k ih =>
        intro b hb
        unfold al
        rw [ih (b + 1) (by omega)]
        unfold neG
        rw [H.2 a ha i h1 h2, H.2 b (by omega) i h1 h2]
    exact this a 0 (by omega)
  · rw [if_neg h]
    unfold unS
    rw [show T.1 = 0 by omega]; rfl
theorem best_tl {T : e_W} {n : Nat} (hn : n ≤ 30) (hT : T.1 ≤ 90) (H : tlW n T) : itr (bestS (fun i => e_n (unS T i : Nat))) 30 0 (e_n (-1), e_n 0) = itr (bestS (fun i => e_n (unS T i : Nat))) n 0 (e_n (-1), e_n 0) := by
  have hu : ∀ i, unS T i ≤ 90 := fun i => by have := cnt_le T.1 (fun a => al (neG T.2.2 i a) a 0); unfold unS; omega
  have hmax : ∀ k i, i < k → ∃ v : Nat, unS T i ≤ v ∧ v ≤ 90 ∧ (itr (bestS (fun i => e_n (unS T i : Nat))) k 0 (e_n (-1), e_n 0)).2 = e_n (v : Nat) := by
    have h2 : ∀ k, ∃ v : Nat, v ≤ 90 ∧ (itr (bestS (fun i => e_n (unS T i : Nat))) k 0 (e_n (-1), e_n 0)).2 = e_n (v : Nat) ∧ ∀ i, i < k → unS T i ≤ v := by
      intro k
      induction k with
      | zero => exact ⟨0, by omega, rfl, fun i hi => by omega⟩
      | succ k ih =>
        obtain ⟨v, v1, v2, v3⟩ := ih
        rw [itr_succ, Nat.zero_add]
        unfold bestS
        dsimp only
        unfold bestS at v2
        rw [v2]
        have hk := hu k
        by_cases hc : v < unS T k
        · rw [if_pos (show e_n (v : Nat) < e_n (unS T k : Nat) from by rw [e_n_ltN (by omega) (by omega)]; exact hc)]
          refine ⟨unS T k, hk, rfl, fun i hi => ?_⟩
          by_cases hik : i = k
          · rw [hik]; exact Nat.le_refl _
          · have := v3 i (by omega); omega
        · rw [if_neg (show ¬ e_n (v : Nat) < e_n (unS T k : Nat) from by rw [e_n_ltN (by omega) (by omega)]; exact hc)]
          refine ⟨v, v1, rfl, fun i hi => ?_⟩
          by_cases hik : i = k
          · rw [hik]; omega
          · exact v3 i (by omega)
    intro k i hi
    obtain ⟨v, v1, v2, v3⟩ := h2 k
    exact ⟨v, v3 i hi, v1, v2⟩
  have key : ∀ r, n + r ≤ 30 → itr (bestS (fun i => e_n (unS T i : Nat))) (n + r) 0 (e_n (-1), e_n 0) = itr (bestS (fun i => e_n (unS T i : Nat))) n 0 (e_n (-1), e_n 0) := by
    intro r
    induction r with
    | zero => intro _; rfl
    | succ r ih =>
      intro hr
      rw [show n + (r + 1) = n + r + 1 by omega, itr_succ, Nat.zero_add, ih (by omega)]
      have hno : ¬ (itr (bestS (fun i => e_n (unS T i : Nat))) n 0 (e_n (-1), e_n 0)).2 < e_n (unS T (n + r) : Nat) := by
        rw [un_tl H (show n ≤ n + r by omega) (by omega)]
        by_cases h : 0 < T.1
        · have hn0 := H.1 h
          rw [if_pos h]
          obtain ⟨v, v1, v2, v3⟩ := hmax n (n - 1) (by omega)
          have := hu (n - 1)
          rw [v3, e_n_ltN (by omega) (by omega)]; omega
        · rw [if_neg h]
          by_cases hn0 : 0 < n
          · obtain ⟨v, v1, v2, v3⟩ := hmax n 0 hn0
            rw [v3, e_n_ltN (by omega) (by omega)]; omega
          · have : n = 0 := by omega
            subst this
            show ¬ e_n 0 < e_n ((0 : Nat) : Nat)
            decide
      show (if _ then _ else _, if _ then _ else _) = _
      rw [if_neg hno, if_neg hno]
  have := key (30 - n) (by omega)
  rwa [show n + (30 - n) = 30 by omega] at this
theorem RF_533 {I : Nat → Nat → Int32} {S : e_T} {T : Nat} {f : Nat → Int32} (h : RF I 525 S T) : RF (upR I 533 f) 525 S T := by
  obtain ⟨f1, f2, f3, f4, f5, f6, f7⟩ := h
  exact ⟨by rw [upR_ne (by decide)]; exact f1, by rw [upR_ne (by decide)]; exact f2, by rw [upR_ne (by decide)]; exact f3, by rw [upR_ne (by decide)]; exact f4, by rw [upR_ne (by decide)]; exact f5, by rw [upR_ne (by decide)]; exact f6, by rw [upR_ne (by decide), upR_ne (by decide), upR_ne (by decide)]; exact f7⟩
/-- the reference's lists, all pairs -/
theorem c282l {d t n ns : Nat} {x1 : Int32} {J : Nat → Nat → Int32} {z : e_Z} {B : e_B} {M : Nat → Int32} (H : Rel J z B) (hM : J 515 = M) (ht : t ≤ 60) (hd : M 0 = e_n (t : Nat)) (hn : min 30 (60 - t) = n) (h76 : J 489 76 = e_n (ns : Nat)) (hns : ns ≤ 8) :
    ∃ I2, e_L (d + 7) 282 20 [.ref 489, .int x1, .int (e_n 0), .int (e_n 0), .null, .null, .null, .null, .null, .null] [] (mk (e_u J 489 0 (e_n 0)) z) = e_L (d + 7) 282 115 [.ref 489, .int x1, .int (e_n ((alW B M n (J 532) ns).1 : Nat)), .int (e_n (-1)), .int (e_n 0), .int (e_n 0), .null, .null, .null, .null] [] (mk I2 z) ∧ IvR n J I2 M (alW B M n (J 532) ns) true ∧ (alW B M n (J 532) ns).1 ≤ 90 := by
  have wb4 : bPe B ≤ 9 := (rel_wb H).2.2.2.1
  have hn30 : n ≤ 30 := by omega
  have hstep : ∀ p c T J' (u : Value), p < bPe B → c < 10 → T.1 ≤ 10 * p + c → IvR n J J' M T true → ∃ I2 u2, e_L (d + 7) 282 31 [.ref 489, .int x1, .int (e_n (T.1 : Nat)), .int (e_n (p : Nat)), .int (e_n (c : Nat)), u, .null, .null, .null, .null] [] (mk J' z) = e_L (d + 7) 282 31 [.ref 489, .int x1, .int (e_n ((stW B M n (J 532) ns p c T).1 : Nat)), .int (e_n (p : Nat)), .int (e_n ((c + 1 : Nat) : Nat)), u2, .null, .null, .null, .null] [] (mk I2 z) ∧ IvR n J I2 M (stW B M n (J 532) ns p c T) true := by
    intro p c T J' u hp hc hT hI
    obtain ⟨i1, i2, i3, i4⟩ := hI
    have H' : Rel J' z B := Rel_r rfl i1.1 i1.2 H
    obtain ⟨I2, a1, a2, a3, a4, a5, a6⟩ := rp_step (d := d) (w := J 532) H' i3 (i1.1 532 (by decide) (by unfold ScrR; omega)) ht hd hn (by rw [i1.2 76 (by unfold ScrF; omega)]; exact h76) hns hp hc
    have h533 : I2 533 = J' 533 := a5 533 (by decide) (by omega)
    have hkeep : stW B M n (J 532) ns p c T = T → IvR n J I2 M (stW B M n (J 532) ns p c T) true := fun h => by
      rw [h]; exact ⟨RfE_tr i1 a2, by rw [a3, i2], a4, fun hb => by rw [h533]; exact i4 hb⟩
    have h10 : e_n (c : Nat) < e_n 10 := by rw [show (e_n 10) = e_n ((10 : Nat) : Nat) from rfl, e_n_ltN (by omega) (by omega)]; exact hc
    by_cases hw : wiF B M n p c = true
    · by_cases ho : okW B M n (J 532) ns p c = true
      · have hst : stW B M n (J 532) ns p c T = (T.1 + 1, if T.2.1 = e_n (-1) then e_n ((100 * p + c : Nat) : Nat) else T.2.1, fun j => if 30 * T.1 ≤ j ∧ j < 30 * T.1 + 30 then LB B (wiS B M n p c) n (j - 30 * T.1) else T.2.2 j) := by unfold stW; rw [if_pos ho]
        have ht0 : ¬ tf (okW B M n (J 532) ns p c = true) = 0 := by rw [tf_eq0]; exact fun q => q ho
        have hF := (a6 hw).2
        have hv : v236 I2 = e_n (n : Nat) := by rw [v236_n ht (by rw [a4]; exact hd), hn]
        have hp4 : I2 489 4 = e_n (bPe B : Nat) := by rw [a2.2 4 (by unfold ScrF; omega)]; exact (rel_rb H').2.2.2.1
        have loop : ∀ k i (K : Nat → Nat → Int32), i + k = 30 → K = upR I2 533 (fun j => if 30 * T.1 ≤ j ∧ j < 30 * T.1 + i then LB B (wiS B M n p c) n (j - 30 * T.1) else I2 533 j) → e_L (d + 7) 282 61 [.ref 489, .int x1, .int (e_n (T.1 : Nat)), .int (e_n (p : Nat)), .int (e_n (c : Nat)), .int (e_n (i : Nat)), .null, .null, .null, .null] [] (mk K z) = e_L (d + 7) 282 31 [.ref 489, .int x1, .int (e_n ((T.1 + 1 : Nat) : Nat)), .int (e_n (p : Nat)), .int (e_n ((c + 1 : Nat) : Nat)), .int (e_n 30), .null, .null, .null, .null] [] (mk (upR I2 533 (fun j => if 30 * T.1 ≤ j ∧ j < 30 * T.1 + 30 then LB B (wiS B M n p c) n (j - 30 * T.1) else I2 533 j)) z) := by
          intro k
          induction k with
          | zero =>
            intro i K hi hK
            have : i = 30 := by omega
            subst this
            rw [C282_61, if_neg (by decide), e_n_succ, e_n_succ, hK]; rfl
          | succ k ih =>
            intro i K hi hK
            have hvK : v236 K = e_n (n : Nat) := by rw [v236_n ht (by rw [hK, upR_ne (by decide), a4]; exact hd), hn]
            have hix : e_n 30 * e_n (T.1 : Nat) + e_n (i : Nat) = e_n ((30 * T.1 + i : Nat) : Nat) := by rw [e_n_mul, e_n_add]; congr 1
            rw [C282_61, if_pos (by rw [show (e_n 30) = e_n ((30 : Nat) : Nat) from rfl, e_n_ltN (by omega) (by omega)]; omega), c239h (d := d + 4) (S := wiS B M n p c) (n := n) wb4 hn30 hvK (by rw [hK, upR_ne (by decide)]; exact hp4) (by rw [hK]; exact RF_533 hF) (fun h0 => last_wi wb4 hn30 h0) (by omega), e_rI_i, hix, C282_85 (InR_n (by omega) (by omega) (by omega)), e_n_nat' (by omega), e_n_succ]
            refine ih (i + 1) _ (by omega) ?_
            rw [hK, e_u_up, upR_up, upR_same]
            congr 1
            funext j
            by_cases h : j = 30 * T.1 + i
            · subst h
              rw [if_pos rfl, if_pos (by omega), show 30 * T.1 + i - 30 * T.1 = i by omega]
            · rw [if_neg h]
              have : (30 * T.1 ≤ j ∧ j < 30 * T.1 + (i + 1)) = (30 * T.1 ≤ j ∧ j < 30 * T.1 + i) := by apply propext; omega
              simp only [this]
        have hl := loop 30 0 I2 (by decide) (by rw [upR_id (by intro j; rw [if_neg (by omega)])])
        refine ⟨upR I2 533 (fun j => if 30 * T.1 ≤ j ∧ j < 30 * T.1 + 30 then LB B (wiS B M n p c) n (j - 30 * T.1) else I2 533 j), .int (e_n 30), ?_, ?_⟩
        · rw [C282_31, if_pos h10, a1, e_rI_i, C282_45, if_pos hw, if_neg (by decide), (a6 hw).1, e_rI_i, C282_52, if_neg ht0, hst]
          exact hl
        · rw [hst]
          refine ⟨RfE_tr (RfE_tr i1 a2) ⟨fun r h1 h2 => upR_ne (fun h => h2 (by unfold ScrR; omega)), fun j hj => by rw [upR_ne (by decide)]⟩, by rw [upR_ne (by decide), a3, i2], by rw [upR_ne (by decide)]; exact a4, fun _ a ha i hi => ?_⟩
          have ha : a < T.1 + 1 := ha
          rw [upR_same]
          show (if _ then _ else _) = (if _ then _ else _)
          by_cases haN : a = T.1
          · subst haN
            rw [if_pos (by omega), if_pos (by omega)]
          · rw [if_neg (by omega), if_neg (by omega), h533]
            exact i4 rfl a (by omega) i hi
      · have hst : stW B M n (J 532) ns p c T = T := by unfold stW; rw [if_neg ho]
        have ht0 : tf (okW B M n (J 532) ns p c = true) = 0 := by rw [tf_eq0]; exact ho
        refine ⟨I2, u, ?_, hkeep hst⟩
        rw [C282_31, if_pos h10, a1, e_rI_i, C282_45, if_pos hw, if_neg (by decide), (a6 hw).1, e_rI_i, C282_52, if_pos ht0, e_n_succ, hst]
    · have ho : ¬ okW B M n (J 532) ns p c = true := fun h => by
        unfold okW at h; rw [Bool.and_eq_true] at h; exact hw h.1
      have hst : stW B M n (J 532) ns p c T = T := by unfold stW; rw [if_neg ho]
      refine ⟨I2, u, ?_, hkeep hst⟩
      rw [C282_31, if_pos h10, a1, e_rI_i, C282_45, if_neg hw, if_pos (by decide), e_n_succ, hst]
  have hinner : ∀ p, p < bPe B → ∀ k c T J' (u : Value), c + k = 10 → T.1 ≤ 10 * p + c → IvR n J J' M T true → ∃ I2 u2, e_L (d + 7) 282 31 [.ref 489, .int x1, .int (e_n (T.1 : Nat)), .int (e_n (p : Nat)), .int (e_n (c : Nat)), u, .null, .null, .null, .null] [] (mk J' z) = e_L (d + 7) 282 20 [.ref 489, .int x1, .int (e_n ((itr (fun c T => stW B M n (J 532) ns p c T) k c T).1 : Nat)), .int (e_n ((p + 1 : Nat) : Nat)), .int (e_n 10), u2, .null, .null, .null, .null] [] (mk I2 z) ∧ IvR n J I2 M (itr (fun c T => stW B M n (J 532) ns p c T) k c T) true ∧ (itr (fun c T => stW B M n (J 532) ns p c T) k c T).1 ≤ 10 * (p + 1) := by
    intro p hp k
    induction k with
    | zero =>
      intro c T J' u hc hT hI
      have : c = 10 := by omega
      subst this
      refine ⟨J', u, ?_, hI, by show T.1 ≤ _; omega⟩
      rw [C282_31, if_neg (by decide), e_n_succ]; rfl
    | succ k ih =>
      intro c T J' u hc hT hI
      obtain ⟨I2, u2, a1, a2⟩ := hstep p c T J' u hp (by omega) hT hI
      obtain ⟨I3, u3, b1, b2, b3⟩ := ih (c + 1) (stW B M n (J 532) ns p c T) I2 u2 (by omega) (by have := stW_le (B := B) (M := M) (n := n) (w := J 532) (ns := ns) (p := p) (c := c) (T := T); omega) a2
      exact ⟨I3, u3, a1.trans b1, b2, b3⟩
  have houter : ∀ k p T J' (u4 u5 : Value), p + k = bPe B → T.1 ≤ 10 * p → IvR n J J' M T true → ∃ I2, e_L (d + 7) 282 20 [.ref 489, .int x1, .int (e_n (T.1 : Nat)), .int (e_n (p : Nat)), u4, u5, .null, .null, .null, .null] [] (mk J' z) = e_L (d + 7) 282 115 [.ref 489, .int x1, .int (e_n ((itr (fun p T => inW B M n (J 532) ns p T) k p T).1 : Nat)), .int (e_n (-1)), .int (e_n 0), .int (e_n 0), .null, .null, .null, .null] [] (mk I2 z) ∧ IvR n J I2 M (itr (fun p T => inW B M n (J 532) ns p T) k p T) true ∧ (itr (fun p T => inW B M n (J 532) ns p T) k p T).1 ≤ 10 * bPe B := by
    intro k
    induction k with
    | zero =>
      intro p T J' u4 u5 hp hT hI
      have hpe : J' 489 4 = e_n (bPe B : Nat) := by rw [hI.1.2 4 (by unfold ScrF; omega)]; exact (rel_rb H).2.2.2.1
      refine ⟨J', ?_, hI, by show T.1 ≤ _; omega⟩
      rw [C282_20, hpe, if_neg (by rw [e_n_ltN (by omega) (by omega)]; omega)]; rfl
    | succ k ih =>
      intro p T J' u4 u5 hp hT hI
      have hpe : J' 489 4 = e_n (bPe B : Nat) := by rw [hI.1.2 4 (by unfold ScrF; omega)]; exact (rel_rb H).2.2.2.1
      obtain ⟨I2, u2, a1, a2, a3⟩ := hinner p (by omega) 10 0 T J' u5 (by omega) (by omega) hI
      obtain ⟨I3, b1, b2, b3⟩ := ih (p + 1) (inW B M n (J 532) ns p T) I2 (.int (e_n 10)) u2 (by omega) a3 a2
      refine ⟨I3, ?_, b2, b3⟩
      rw [C282_20, hpe, if_pos (by rw [e_n_ltN (by omega) (by omega)]; omega), show (e_n 0) = e_n ((0 : Nat) : Nat) from rfl, a1]
      exact b1
  obtain ⟨I2, a1, a2, a3⟩ := houter (bPe B) 0 W0 (e_u J 489 0 (e_n 0)) .null .null (by omega) (Nat.zero_le _) ⟨RfE_0, e_u_same, by rw [K515 (by decide), hM], fun _ a ha => absurd ha (Nat.not_lt_zero a)⟩
  exact ⟨I2, a1, a2, by have : (alW B M n (J 532) ns).1 ≤ 10 * bPe B := a3; omega⟩
/-- how unlike, in the reference -/
theorem c282u {d i : Nat} {x1 x3 x4 : Int32} {I : Nat → Nat → Int32} {z : e_Z} {T : e_W} (hi : i < 30) (hT : T.1 ≤ 90) (hG : ∀ a, a < T.1 → ∀ i, i < 30 → I 533 (30 * a + i) = T.2.2 (30 * a + i)) (u6 u7 u8 u9 : Value) :
    ∃ v6 v7 v8 v9, e_L (d + 7) 282 115 [.ref 489, .int x1, .int (e_n (T.1 : Nat)), .int x3, .int x4, .int (e_n (i : Nat)), u6, u7, u8, u9] [] (mk I z) = e_L (d + 7) 282 115 [.ref 489, .int x1, .int (e_n (T.1 : Nat)), .int (if x4 < e_n (unS T i : Nat) then e_n (i : Nat) else x3), .int (if x4 < e_n (unS T i : Nat) then e_n (unS T i : Nat) else x4), .int (e_n ((i + 1 : Nat) : Nat)), v6, v7, v8, v9] [] (mk I z) := by
  have hix : ∀ a : Nat, e_n 30 * e_n (a : Nat) + e_n (i : Nat) = e_n ((30 * a + i : Nat) : Nat) := fun a => by rw [e_n_mul, e_n_add]; congr 1
  have inner : ∀ r b a (x6 : Int32), b + r = a → a < T.1 → ∃ u8 u9, e_L (d + 7) 282 140 [.ref 489, .int x1, .int (e_n (T.1 : Nat)), .int x3, .int x4, .int (e_n (i : Nat)), .int x6, .int (e_n (a : Nat)), .int (e_n 1), .int (e_n (b : Nat))] [] (mk I z) = e_L (d + 7) 282 128 [.ref 489, .int x1, .int (e_n (T.1 : Nat)), .int x3, .int x4, .int (e_n (i : Nat)), .int (x6 + tf (al (neG T.2.2 i a) r b = true)), .int (e_n ((a + 1 : Nat) : Nat)), u8, u9] [] (mk I z) := by
    intro r
    induction r with
    | zero =>
      intro b a x6 hb ha
      rw [C282_140 (fun h => absurd h (by rw [e_n_ltN (by omega) (by omega)]; omega)) (fun h => absurd h (by rw [e_n_ltN (by omega) (by omega)]; omega)), if_neg (by rw [e_n_ltN (by omega) (by omega)]; omega), e_n_succ]
      exact ⟨_, _, rfl⟩
    | succ r ih =>
      intro b a x6 hb ha
      rw [C282_140 (fun _ _ => by rw [hix]; exact InR_n (by omega) (by omega) (by omega)) (fun _ _ => by rw [hix]; exact InR_n (by omega) (by omega) (by omega)), if_pos (by rw [e_n_ltN (by omega) (by omega)]; omega), if_neg (by decide), hix, hix, e_n_nat' (by omega), e_n_nat' (by omega), hG a ha i hi, hG b (by omega) i hi, e_n_succ]
      unfold al
      by_cases hc : T.2.2 (30 * a + i) = T.2.2 (30 * b + i)
      · have hf : neG T.2.2 i a b = false := decide_eq_false (fun h => h hc)
        rw [hf, Bool.false_and, show tf (¬ T.2.2 (30 * a + i) = T.2.2 (30 * b + i)) = e_n 0 from by unfold tf; rw [if_neg (fun h => h hc)], show tf (false = true) = e_n 0 from by decide]
        rw [C282_140 (fun _ h => absurd (by decide) h) (fun _ h => absurd (by decide) h)]
        by_cases h2 : b + 1 < a
        · rw [if_pos (by rw [e_n_ltN (by omega) (by omega)]; exact h2), if_pos (by decide), e_n_succ]
          exact ⟨_, _, rfl⟩
        · rw [if_neg (by rw [e_n_ltN (by omega) (by omega)]; exact h2), e_n_succ, show tf (¬ e_n 0 = 0) = e_n 0 from by decide]
          exact ⟨_, _, rfl⟩
      · have hf : neG T.2.2 i a b = true := decide_eq_true hc
        rw [hf, Bool.true_and, show tf (¬ T.2.2 (30 * a + i) = T.2.2 (30 * b + i)) = e_n 1 from by unfold tf; rw [if_pos hc]]
        exact ih (b + 1) a x6 (by omega) ha
  have outer : ∀ r a (u8 u9 : Value), a + r = T.1 → ∃ v6 v7 v8 v9, e_L (d + 7) 282 128 [.ref 489, .int x1, .int (e_n (T.1 : Nat)), .int x3, .int x4, .int (e_n (i : Nat)), .int (e_n (cnt a (fun a => al (neG T.2.2 i a) a 0) : Nat)), .int (e_n (a : Nat)), u8, u9] [] (mk I z) = e_L (d + 7) 282 115 [.ref 489, .int x1, .int (e_n (T.1 : Nat)), .int (if x4 < e_n (unS T i : Nat) then e_n (i : Nat) else x3), .int (if x4 < e_n (unS T i : Nat) then e_n (unS T i : Nat) else x4), .int (e_n ((i + 1 : Nat) : Nat)), v6, v7, v8, v9] [] (mk I z) := by
    intro r
    induction r with
    | zero =>
      intro a u8 u9 ha
      have : a = T.1 := by omega
      subst this
      rw [C282_128, if_neg (by rw [e_n_ltN (by omega) (by omega)]; omega), e_n_succ]
      exact ⟨_, _, _, _, rfl⟩
    | succ r ih =>
      intro a u8 u9 ha
      obtain ⟨v8, v9, e⟩ := inner a 0 a (e_n (cnt a (fun a => al (neG T.2.2 i a) a 0) : Nat)) (by omega) (by omega)
      rw [C282_128, if_pos (by rw [e_n_ltN (by omega) (by omega)]; omega), show (e_n 0) = e_n ((0 : Nat) : Nat) from rfl, e, cnt_tf (f := fun a => al (neG T.2.2 i a) a 0)]
      exact ih (a + 1) v8 v9 (by omega)
  obtain ⟨v6, v7, v8, v9, e⟩ := outer T.1 0 u8 u9 (by omega)
  refine ⟨v6, v7, v8, v9, ?_⟩
  rw [C282_115, if_pos (by rw [show (e_n 30) = e_n ((30 : Nat) : Nat) from rfl, e_n_ltN (by omega) (by omega)]; exact hi)]
  exact e
theorem F157 {d : Nat} {c1 : Int32} {I : Nat → Nat → Int32} {z : e_Z} {B : e_B} (H : Rel I z B) {x : Int32} : Face d c1 I z 157 282 [.int x] := by
  have wb := rel_wb H
  have wb4 : bPe B ≤ 9 := wb.2.2.2.1
  obtain ⟨t, ht, hd⟩ := rel_day H
  by_cases hm : x < 0 ∨ ¬ x < e_n 2
  · refine throw_p H ?_ ?_
    · refine (e_E_11 (d := d + 9) (y := 157) rfl).trans ?_
      show e_L (d + 9) 157 0 [.ref 1, .int x, .null, .null, .null, .null] [] (mk I z) = _
      rw [C157_0, if_pos hm]; rfl
    · intro J z2 HJ
      refine ⟨e_n 0, e_E_ret (d := d + 9) ?_⟩
      show e_L (d + 9) 282 0 [.ref 489, .int x, .null, .null, .null, .null, .null, .null, .null, .null] [] (mk J z2) = _
      rw [C282_0, c246n (x2 := e_n 1) (k := 1) rfl (by decide) K0 hm, e_rI_i, C282_11, if_pos (by decide)]
  have hm2 : ¬ (x < 0 ∨ ¬ x < e_n ((1 + 1 : Nat) : Nat)) := hm
  obtain ⟨ns, hns, hs4, h76, hs⟩ := rel_se H
  generalize hn : min 30 (60 - t) = n
  have hn30 : n ≤ 30 := by omega
  obtain ⟨I1, z1, a1, ⟨c1', c2, c3, c4, c5, c6, c7⟩, a3⟩ := c22h (d := d + 2) H ht hd hn h76 hns
  have htl := tl_all (B := B) (M := I 515) (n := n) (w := I 532) (ns := ns) wb4 hn30
  generalize hT : alW B (I 515) n (I 532) ns = T at c4 c5 c7 a3 htl
  generalize hq : itr (bestS (fun i => e_n (unS T i : Nat))) n 0 (e_n (-1), e_n 0) = q
  refine face_rd H (r := .inl (if x = 0 then q.1 else q.2)) (I1 := I1) c2 c3 (e_E_ret (d := d + 9) ?_) c1' ?_
  · show e_L (d + 9) 157 0 [.ref 1, .int x, .null, .null, .null, .null] [] (mk I z) = _
    rw [C157_0, if_neg hm, a1, e_rV_n, C157_24]
    have loop : ∀ k i (q : Int32 × Int32) (u : Value), i + k = n → e_L (d + 9) 157 31 [.ref 1, .int x, .int q.1, .int q.2, .int (e_n (i : Nat)), u] [] (mk I1 z1) = some (.inl (some (.int (if x = 0 then (itr (bestS (fun i => e_n (unS T i : Nat))) k i q).1 else (itr (bestS (fun i => e_n (unS T i : Nat))) k i q).2))), mk I1 z1) := by
      intro k
      induction k with
      | zero =>
        intro i q u hi
        rw [C157_31, c6, if_neg (by rw [e_n_ltN (by omega) (by omega)]; omega)]; rfl
      | succ k ih =>
        intro i q u hi
        rw [C157_31, c6, if_pos (by rw [e_n_ltN (by omega) (by omega)]; omega), c24h (d := d + 7) (n := n) (T := T) (by omega) hn30 a3 c4 c7, e_rI_i, C157_52, e_n_succ]
        exact ih (i + 1) (bestS (fun i => e_n (unS T i : Nat)) i q) _ (by omega)
    have := loop n 0 (e_n (-1), e_n 0) .null (by omega)
    rw [hq] at this
    exact this
  · intro J z2 HJ hqq
    obtain ⟨I2, b1, ⟨b2, b3, b4, b5⟩, b6⟩ := c282l (d := d + 2) (x1 := x) HJ (hqq 515 (by decide)) ht hd hn (by rw [hqq 489 (by decide)]; exact h76) hns
    rw [hqq 532 (by decide), hT] at b1 b5
    refine ⟨I2, if x = 0 then q.1 else q.2, e_E_ret (d := d + 9) ?_, b2, b3, rfl⟩
    show e_L (d + 9) 282 0 [.ref 489, .int x, .null, .null, .null, .null, .null, .null, .null, .null] [] (mk J z2) = _
    rw [C282_0, c246y (x2 := e_n 1) (k := 1) rfl (by decide) K0 hm2, e_rI_i, C282_11, if_neg (by decide), b1]
    have loop : ∀ k i (q : Int32 × Int32) (u6 u7 u8 u9 : Value), i + k = 30 → e_L (d + 9) 282 115 [.ref 489, .int x, .int (e_n (T.1 : Nat)), .int q.1, .int q.2, .int (e_n (i : Nat)), u6, u7, u8, u9] [] (mk I2 z2) = some (.inl (some (.int (if x = 0 then (itr (bestS (fun i => e_n (unS T i : Nat))) k i q).1 else (itr (bestS (fun i => e_n (unS T i : Nat))) k i q).2))), mk I2 z2) := by
      intro k
      induction k with
      | zero =>
        intro i q u6 u7 u8 u9 hi
        have : i = 30 := by omega
        subst this
        rw [C282_115, if_neg (by decide)]; rfl
      | succ k ih =>
        intro i q u6 u7 u8 u9 hi
        obtain ⟨v6, v7, v8, v9, e⟩ := c282u (d := d + 2) (x1 := x) (x3 := q.1) (x4 := q.2) (I := I2) (z := z2) (T := T) (i := i) (by omega) a3 (b5 rfl) u6 u7 u8 u9
        rw [e]
        exact ih (i + 1) (bestS (fun i => e_n (unS T i : Nat)) i q) v6 v7 v8 v9 (by omega)
    have := loop 30 0 (e_n (-1), e_n 0) .null .null .null .null (by decide)
    rw [best_tl hn30 a3 htl, hq] at this
    exact this
end S97
