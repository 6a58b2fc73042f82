/-! ways out -/
section S98
def seaB (B : e_B) : Int32 := msk (bPl B) (fun a => decide (bR B 1 a = e_n (-1)))
def unfS (B : e_B) (W : Int32) (D : Nat) (h : Int32) : Int32 := itr (fun a q => if bet (bR B 1 a) W D then q &&& (e_shl (e_n 1) (e_n (a : Nat)) ^^^ e_n (-1)) else q) (bPl B) 0 h
def h1S (B : e_B) (ns : Int32) (D : Nat) (h : Int32) : Int32 := h ||| byS B h (e_n (D : Nat)) ns
def ouL (B : e_B) (ns W : Int32) : Nat → Nat → Int32 → Int32
  | 0, _, _ => e_n (-1)
  | k + 1, D, h => if h1S B ns D h &&& seaB B = 0 then ouL B ns W k (D + 1) (unfS B W D (h1S B ns D h)) else e_n (D : Nat)
theorem bt_unf {B : e_B} {W : Int32} {D : Nat} {h : Int32} (wb2 : bPl B ≤ 8) {i : Nat} (hi : i < 32) : bt (unfS B W D h) i = (bt h i && !(decide (i < bPl B) && bet (bR B 1 i) W D)) := by
  refine itr_inv (fun k q => bt q i = (bt h i && !(decide (i < k) && bet (bR B 1 i) W D))) (n := bPl B) (f := fun a q => if bet (bR B 1 a) W D then q &&& (e_shl (e_n 1) (e_n (a : Nat)) ^^^ e_n (-1)) else q) (s := h) (by simp) ?_
  intro k q hk ih
  by_cases hb : bet (bR B 1 k) W D = true
  · rw [if_pos hb, bt_and, bt_not _ hi, bt_bit (by omega), ih]
    by_cases hik : i = k
    · subst hik; simp [hb]
    · have : decide (i < k + 1) = decide (i < k) := by rw [decide_eq_decide]; omega
      rw [this]; simp [hik]
  · rw [if_neg hb, ih]
    by_cases hik : i = k
    · subst hik; simp [hb]
    · have : decide (i < k + 1) = decide (i < k) := by rw [decide_eq_decide]; omega
      rw [this]
theorem v29h {I : Nat → Nat → Int32} {b : Nat} {B : e_B} (hb : B2 b) (wb : WB B) (hB : BrC I b B) : v29 I b = seaB B := by
  have wb2 : bPl B ≤ 8 := wb.2.1
  unfold v29 seaB msk
  rw [hB.2.1, e_n_nat' (by omega)]
  apply itr_congr
  intro a s ha
  rw [rd_N (by rw [lnb2 hb]; omega), hB.2.2.2.2.2.2.1 a ha]
  by_cases h : bR B 1 a = e_n (-1)
  · rw [if_pos h, if_pos (decide_eq_true h)]
  · rw [if_neg h, if_neg (by simpa using h)]
    apply bt_ext
    intro i _
    rw [bt_or, bt_0, Bool.or_false]
theorem v35h {I : Nat → Nat → Int32} {b D : Nat} {B : e_B} {h W : Int32} (hb : B2 b) (wb : WB B) (hB : BrC I b B) : v35 I b h W (e_n (D : Nat)) = unfS B W D h := by
  have wb2 : bPl B ≤ 8 := wb.2.1
  unfold v35 unfS
  rw [hB.2.1, e_n_nat' (by omega)]
  apply itr_congr
  intro a s ha
  rw [rd_N (by rw [lnb2 hb]; omega), hB.2.2.2.2.2.2.1 a ha]
  unfold bet
  by_cases hc : ¬ bR B 1 a = e_n (-1) ∧ ¬ W = e_n (-1) ∧ ¬ e_n (D : Nat) < W ∧ ¬ bR B 1 a + e_n (D : Nat) - W < e_n 10
  · rw [if_pos hc, if_pos (decide_eq_true hc)]
  · rw [if_neg hc, if_neg (by simpa using hc)]
theorem c34h {d t n : Nat} {I : Nat → Nat → Int32} {z : e_Z} {b : Nat} {B : e_B} {x W ns : Int32} (hb : B2 b) (wb : WB B) (hB : BrC I b B) (ht : t ≤ 60) (hn : min 30 (60 - t) = n) : e_E (d + 5) 34 [.ref (b + 1), .int x, .int (e_n (t : Nat)), .int W, .int ns] (mk I z) = some (.inl (some (.int (ouL B ns W (n + 1) t (e_shl (e_n 1) x)))), mk I z) := by
  have hmn : e_min (e_n (t : Nat) + e_n 30) (e_n 60) = e_n ((t + n : Nat) : Nat) := by
    rw [show e_n (t : Nat) + e_n 30 = e_n ((t + 30 : Nat) : Nat) from by rw [e_n_add]; congr 1, show (e_n 60) = e_n ((60 : Nat) : Nat) from rfl, e_min_n (by omega) (by omega)]
    congr 2; omega
  refine e_E_ret (d := d + 4) ((C34_0 hb).trans ?_)
  rw [hmn, v29h hb wb hB]
  have loop : ∀ k D h, D + k = t + n + 1 → e_L (d + 4) 34 26 [.ref (b + 1), .int x, .int (e_n (t : Nat)), .int W, .int ns, .int (e_n ((t + n : Nat) : Nat)), .int (seaB B), .int h, .int (e_n (D : Nat))] [] (mk I z) = some (.inl (some (.int (ouL B ns W k D h))), mk I z) := by
    intro k
    induction k with
    | zero =>
      intro D h hD
      rw [C34_26 hb, if_pos (by rw [e_n_ltN (by omega) (by omega)]; omega)]
      rfl
    | succ k ih =>
      intro D h hD
      rw [C34_26 hb, if_neg (by rw [e_n_ltN (by omega) (by omega)]; omega), v32h hb wb hB, v35h hb wb hB, e_n_succ]
      unfold ouL h1S
      by_cases hc : (h ||| byS B h (e_n (D : Nat)) ns) &&& seaB B = 0
      · rw [if_pos hc, if_pos hc]
        exact ih (D + 1) _ (by omega)
      · rw [if_neg hc, if_neg hc]
  exact loop (n + 1) t (e_shl (e_n 1) x) (by omega)
-- the reference
def BX (I : Nat → Nat → Int32) (r : Nat) (h : Int32) (n : Nat) : Prop := ∀ a, a < n → I r a = tf (bt h a = true)
theorem tf_and1 (p : Prop) [Decidable p] : tf p &&& 1 = tf p := by unfold tf; by_cases h : p <;> simp [h] <;> decide
theorem tf_orr (p q : Prop) [Decidable p] [Decidable q] : tf (¬ tf p = 0 ∨ ¬ tf q = 0) = tf (p ∨ q) := by
  unfold tf
  by_cases h1 : p <;> by_cases h2 : q <;> simp [h1, h2, en_10, en_00]
theorem c268h {d D : Nat} {J : Nat → Nat → Int32} {z : e_Z} {B : e_B} {h ns : Int32} (wb : WB B) (hB : RB J B) (h69 : J 489 69 = ns) (hX : BX J 527 h (bPl B)) : ∃ J', e_E (d + 2) 268 [.ref 489, .int (e_n (D : Nat))] (mk J z) = some (.inl none, mk J' z) ∧ BX J' 527 (h1S B ns D h) (bPl B) ∧ ∀ r, r ≠ 527 → r ≠ 528 → J' r = J r := by
  have wb2 : bPl B ≤ 8 := wb.2.1
  have wb3 : bWy B ≤ 12 := wb.2.2.1
  have hpl : J 489 2 = e_n (bPl B : Nat) := hB.2.1
  have hwy : J 489 3 = e_n (bWy B : Nat) := hB.2.2.1
  have hways := hB.2.2.2.2.2.2.2.2.1
  have l1 : ∀ k a (K : Nat → Nat → Int32), a + k = bPl B → BX K 528 h a → (∀ r, r ≠ 528 → K r = J r) → ∃ K', e_L (d + 1) 268 2 [.ref 489, .int (e_n (D : Nat)), .int (e_n (a : Nat))] [] (mk K z) = e_L (d + 1) 268 30 [.ref 489, .int (e_n (D : Nat)), .int (e_n 0)] [] (mk K' z) ∧ BX K' 528 h (bPl B) ∧ ∀ r, r ≠ 528 → K' r = J r := by
    intro k
    induction k with
    | zero =>
      intro a K ha hK hr
      refine ⟨K, ?_, by rw [show bPl B = a by omega]; exact hK, hr⟩
      rw [C268_2 (fun hh => absurd hh (by rw [hr 489 (by decide), hpl, e_n_ltN (by omega) (by omega)]; omega)), hr 489 (by decide), hpl, if_neg (by rw [e_n_ltN (by omega) (by omega)]; omega)]
    | succ k ih =>
      intro a K ha hK hr
      obtain ⟨K', e1, e2, e3⟩ := ih (a + 1) (e_u K 528 a (tf (bt h a = true))) (by omega) (fun i hi => by
        rw [e_u_at]
        by_cases hia : i = a
        · rw [if_pos hia, hia]
        · rw [if_neg hia]; exact hK i (by omega)) (fun r h1 => by rw [e_u_na h1]; exact hr r h1)
      refine ⟨K', ?_, e2, e3⟩
      rw [C268_2 (fun _ => InR_n (by omega) (by omega) (by omega)), hr 489 (by decide), hpl, if_pos (by rw [e_n_ltN (by omega) (by omega)]; omega), e_n_nat' (by omega), hr 527 (by decide), hX a (by omega), tf_and1, e_n_succ]
      exact e1
  have l2 : ∀ k w (K : Nat → Nat → Int32), w + k = bWy B → BX K 528 (h ||| itr (bySt B h (e_n (D : Nat)) ns) w 0 (e_n 0)) (bPl B) → (∀ r, r ≠ 528 → K r = J r) → ∃ K', e_L (d + 1) 268 30 [.ref 489, .int (e_n (D : Nat)), .int (e_n (w : Nat))] [] (mk K z) = e_L (d + 1) 268 146 [.ref 489, .int (e_n (D : Nat)), .int (e_n 0)] [] (mk K' z) ∧ BX K' 528 (h1S B ns D h) (bPl B) ∧ ∀ r, r ≠ 528 → K' r = J r := by
    intro k
    induction k with
    | zero =>
      intro w K hw hK hr
      have : w = bWy B := by omega
      subst this
      refine ⟨K, ?_, hK, hr⟩
      rw [C268_30, hr 489 (by decide), hwy, if_neg (by rw [e_n_ltN (by omega) (by omega)]; omega)]
    | succ k ih =>
      intro w K hw hK hr
      have hwb : w < bWy B := by omega
      obtain ⟨a1, a2⟩ := wA_n wb hwb
      obtain ⟨z1, z2⟩ := wZ_n wb hwb
      have hne := wne wb hwb
      have w491 : K 491 w = e_n (wA B w : Nat) := by rw [hr 491 (by decide), (hways w hwb).1, a2]
      have w492 : K 492 w = e_n (wZ B w : Nat) := by rw [hr 492 (by decide), (hways w hwb).2.1, z2]
      have w493 : K 493 w = bR B 4 w := by rw [hr 493 (by decide), (hways w hwb).2.2]
      have gw : InR (e_n (w : Nat)) 12 := InR_n (by omega) (by omega) (by omega)
      have hstep : ∃ K1, e_L (d + 1) 268 30 [.ref 489, .int (e_n (D : Nat)), .int (e_n (w : Nat))] [] (mk K z) = e_L (d + 1) 268 30 [.ref 489, .int (e_n (D : Nat)), .int (e_n ((w + 1 : Nat) : Nat))] [] (mk K1 z) ∧ BX K1 528 (h ||| itr (bySt B h (e_n (D : Nat)) ns) (w + 1) 0 (e_n 0)) (bPl B) ∧ ∀ r, r ≠ 528 → K1 r = J r := by
        have hbt : ∀ i, bt (h ||| itr (bySt B h (e_n (D : Nat)) ns) (w + 1) 0 (e_n 0)) i = true ↔ (bt (h ||| itr (bySt B h (e_n (D : Nat)) ns) w 0 (e_n 0)) i = true ∨ (pas B (e_n (D : Nat)) ns w ∧ ((bt h (wA B w) = true ∧ i = wZ B w) ∨ (bt h (wZ B w) = true ∧ i = wA B w)))) := by
          intro i
          rw [bt_or, bt_or, Bool.or_eq_true, Bool.or_eq_true, itr_succ, Nat.zero_add, bt_bySt wb hwb, or_assoc]
        have hK27 : ∀ a, a < bPl B → K 527 a = tf (bt h a = true) := fun a ha => by rw [hr 527 (by decide)]; exact hX a ha
        rw [C268_30, hr 489 (by decide), hwy, if_pos (by rw [e_n_ltN (by omega) (by omega)]; omega), c253 (fun _ => gw), e_rI_i, hr 489 (by decide), h69, e_n_nat' (show w < 2147483648 by omega), w493]
        rw [C268_44 (fun _ => gw) (fun _ => by rw [e_n_nat' (by omega), w491]; exact InR_n (by omega) (by omega) (by omega)) (fun _ _ => by rw [e_n_nat' (by omega), w492]; exact InR_n (by omega) (by omega) (by omega)) (fun _ _ => by rw [e_n_nat' (by omega), w492]; exact InR_n (by omega) (by omega) (by omega)), e_n_nat' (show w < 2147483648 by omega), w491, w492, e_n_nat' (show wA B w < 2147483648 by omega), e_n_nat' (show wZ B w < 2147483648 by omega), e_n_succ]
        by_cases hp : pas B (e_n (D : Nat)) ns w
        · have ht : ¬ tf (e_n (w : Nat) = ns ∨ e_n (D : Nat) < bR B 4 w) = 0 := by rw [tf_eq0]; exact fun q => q hp
          rw [if_neg ht, hK _ a1, hK27 _ z1, hK27 _ a1, tf_orr, tf_and1, e_u_ne (Ne.symm hne), hK _ z1, tf_orr, tf_and1]
          refine ⟨_, rfl, fun i hi => ?_, fun r h1 => by rw [e_u_na h1, e_u_na h1]; exact hr r h1⟩
          rw [e_u_at, e_u_at]
          have hb := hbt i
          by_cases hiz : i = wZ B w
          · rw [if_pos hiz]
            subst hiz
            unfold tf
            by_cases hq : bt (h ||| itr (bySt B h (e_n (D : Nat)) ns) w 0 (e_n 0)) (wZ B w) = true ∨ bt h (wA B w) = true
            · rw [if_pos hq, if_pos (hb.mpr (hq.elim (fun q => Or.inl q) (fun q => Or.inr ⟨hp, Or.inl ⟨q, rfl⟩⟩)))]
            · rw [if_neg hq, if_neg (fun q => by
                rcases hb.mp q with q | ⟨-, ⟨q, -⟩ | ⟨-, q⟩⟩
                · exact hq (Or.inl q)
                · exact hq (Or.inr q)
                · exact hne q.symm)]
          · rw [if_neg hiz]
            by_cases hia : i = wA B w
            · rw [if_pos hia]
              subst hia
              unfold tf
              by_cases hq : bt (h ||| itr (bySt B h (e_n (D : Nat)) ns) w 0 (e_n 0)) (wA B w) = true ∨ bt h (wZ B w) = true
              · rw [if_pos hq, if_pos (hb.mpr (hq.elim (fun q => Or.inl q) (fun q => Or.inr ⟨hp, Or.inr ⟨q, rfl⟩⟩)))]
              · rw [if_neg hq, if_neg (fun q => by
                  rcases hb.mp q with q | ⟨-, ⟨-, q⟩ | ⟨q, -⟩⟩
                  · exact hq (Or.inl q)
                  · exact hne q
                  · exact hq (Or.inr q))]
            · rw [if_neg hia, hK i hi]
              unfold tf
              by_cases hq : bt (h ||| itr (bySt B h (e_n (D : Nat)) ns) w 0 (e_n 0)) i = true
              · rw [if_pos hq, if_pos (hb.mpr (Or.inl hq))]
              · rw [if_neg hq, if_neg (fun q => by
                  rcases hb.mp q with q | ⟨-, ⟨-, q⟩ | ⟨-, q⟩⟩
                  · exact hq q
                  · exact hiz q
                  · exact hia q)]
        · have ht : tf (e_n (w : Nat) = ns ∨ e_n (D : Nat) < bR B 4 w) = 0 := by rw [tf_eq0]; exact hp
          rw [if_pos ht]
          refine ⟨K, rfl, fun i hi => ?_, hr⟩
          rw [hK i hi]
          have hb := hbt i
          unfold tf
          by_cases hq : bt (h ||| itr (bySt B h (e_n (D : Nat)) ns) w 0 (e_n 0)) i = true
          · rw [if_pos hq, if_pos (hb.mpr (Or.inl hq))]
          · rw [if_neg hq, if_neg (fun q => (hb.mp q).elim hq (fun w => hp w.1))]
      obtain ⟨K1, e1, e2, e3⟩ := hstep
      obtain ⟨K', f1, f2, f3⟩ := ih (w + 1) K1 (by omega) e2 e3
      exact ⟨K', e1.trans f1, f2, f3⟩
  have l3 : ∀ k a (K : Nat → Nat → Int32), a + k = bPl B → BX K 528 (h1S B ns D h) (bPl B) → BX K 527 (h1S B ns D h) a → (∀ r, r ≠ 527 → r ≠ 528 → K r = J r) → ∃ K', e_L (d + 1) 268 146 [.ref 489, .int (e_n (D : Nat)), .int (e_n (a : Nat))] [] (mk K z) = some (.inl none, mk K' z) ∧ BX K' 527 (h1S B ns D h) (bPl B) ∧ ∀ r, r ≠ 527 → r ≠ 528 → K' r = J r := by
    intro k
    induction k with
    | zero =>
      intro a K ha h8 h7 hr
      refine ⟨K, ?_, by rw [show bPl B = a by omega]; exact h7, hr⟩
      rw [C268_146 (fun hh => absurd hh (by rw [hr 489 (by decide) (by decide), hpl, e_n_ltN (by omega) (by omega)]; omega)), hr 489 (by decide) (by decide), hpl, if_neg (by rw [e_n_ltN (by omega) (by omega)]; omega)]
    | succ k ih =>
      intro a K ha h8 h7 hr
      obtain ⟨K', e1, e2, e3⟩ := ih (a + 1) (e_u K 527 a (tf (bt (h1S B ns D h) a = true))) (by omega) (fun i hi => by rw [e_u_na (by decide)]; exact h8 i hi) (fun i hi => by
        rw [e_u_at]
        by_cases hia : i = a
        · rw [if_pos hia, hia]
        · rw [if_neg hia]; exact h7 i (by omega)) (fun r h1 h2 => by rw [e_u_na h1]; exact hr r h1 h2)
      refine ⟨K', ?_, e2, e3⟩
      rw [C268_146 (fun _ => InR_n (by omega) (by omega) (by omega)), hr 489 (by decide) (by decide), hpl, if_pos (by rw [e_n_ltN (by omega) (by omega)]; omega), e_n_nat' (by omega), h8 a (by omega), tf_and1, e_n_succ]
      exact e1
  obtain ⟨K1, e1, e2, e3⟩ := l1 (bPl B) 0 J (by omega) (fun a ha => absurd ha (Nat.not_lt_zero a)) (fun _ _ => rfl)
  obtain ⟨K2, f1, f2, f3⟩ := l2 (bWy B) 0 K1 (by omega) (fun i hi => by
    rw [e2 i hi]
    have : bt (h ||| itr (bySt B h (e_n (D : Nat)) ns) 0 0 (e_n 0)) i = bt h i := by
      show bt (h ||| e_n 0) i = _
      rw [bt_or, bt_0, Bool.or_false]
    rw [this]) e3
  obtain ⟨K3, g1, g2, g3⟩ := l3 (bPl B) 0 K2 (by omega) f2 (fun a ha => absurd ha (Nat.not_lt_zero a)) (fun r _ h2 => f3 r h2)
  refine ⟨K3, e_E_ret (d := d + 1) ?_, g2, g3⟩
  show e_L (d + 1) 268 0 [.ref 489, .int (e_n (D : Nat)), .null] [] (mk J z) = _
  rw [C268_0, show (e_n 0) = e_n ((0 : Nat) : Nat) from rfl, e1, show (e_n 0) = e_n ((0 : Nat) : Nat) from rfl, f1, show (e_n 0) = e_n ((0 : Nat) : Nat) from rfl, g1]
end S98
