/-! bargain -/
section S99i
/-- couple j of the bargain is content both ways -/
def okB (a b : Nat) (pa pb : Int32) (j : Nat) : Bool := decide (¬ v160 (fun _ _ => 0) (e_n ((j / 2 : Nat) : Nat)) (e_n ((j % 2 : Nat) : Nat)) pa (e_n (a : Nat)) = 0 ∧ ¬ v160 (fun _ _ => 0) (e_n ((j % 2 : Nat) : Nat)) (e_n ((j / 2 : Nat) : Nat)) pb (e_n (b : Nat)) = 0)
def bgD (a b : Nat) (pa pb : Int32) : Nat → Int32 × Int32 → Int32 × Int32
  | 0, s => s
  | j + 1, s => bgD a b pa pb j (if okB a b pa pb j = true then (s.1 + e_n 1, e_n 10 * e_n ((j / 2 : Nat) : Nat) + e_n ((j % 2 : Nat) : Nat)) else s)
def bgU (a b : Nat) (pa pb : Int32) : Nat → Nat → Int32 × Int32 → Int32 × Int32
  | 0, _, s => s
  | k + 1, j, s => bgU a b pa pb k (j + 1) (if okB a b pa pb j = true then (s.1 + e_n 1, if s.2 = e_n (-1) then e_n 10 * e_n ((j / 2 : Nat) : Nat) + e_n ((j % 2 : Nat) : Nat) else s.2) else s)
theorem bg_eq : ∀ a, a < 2 → ∀ b, b < 2 → ∀ pa pb, (pa = e_n 0 ∨ pa = e_n 5) → (pb = e_n 0 ∨ pb = e_n 5) → bgD a b pa pb 4 (e_n 0, e_n (-1)) = bgU a b pa pb 4 0 (e_n 0, e_n (-1)) := by
  intro a ha b hb pa pb hpa hpb
  have h1 : a = 0 ∨ a = 1 := by omega
  have h2 : b = 0 ∨ b = 1 := by omega
  rcases h1 with rfl | rfl <;> rcases h2 with rfl | rfl <;> rcases hpa with rfl | rfl <;> rcases hpb with rfl | rfl <;> decide
theorem bgj : ∀ j : Nat, j < 4 → e_shr (e_n (j : Nat)) (e_n 1) = e_n ((j / 2 : Nat) : Nat) ∧ e_n (j : Nat) &&& e_n 1 = e_n ((j % 2 : Nat) : Nat) ∧ e_n (j : Nat) / e_n 2 = e_n ((j / 2 : Nat) : Nat) ∧ e_n (j : Nat) - e_n ((j / 2 : Nat) : Nat) * e_n 2 = e_n ((j % 2 : Nat) : Nat) := by
  intro j hj
  match j, hj with
  | 0, _ => decide
  | 1, _ => decide
  | 2, _ => decide
  | 3, _ => decide
  | _ + 4, h => omega
theorem v160_I (I : Nat → Nat → Int32) : v160 I = v160 (fun _ _ => 0) := rfl
theorem F159 {d : Nat} {I : Nat → Nat → Int32} {z : e_Z} {B : e_B} (H : Rel I z B) {x x2 x3 : Int32} : Face d (e_n 2) I z 159 286 [.int x, .int x2, .int x3] := by
  have wb := rel_wb H
  have wb1 : bMa B ≤ 3 := wb.1
  have wb4 : bPe B ≤ 9 := wb.2.2.2.1
  have hb := B2_bd z.2.1.1
  have hB := rel_bc H
  have hmc := hB.1
  by_cases hm : (x < 0 ∨ ¬ x < e_n (bMa B : Nat)) ∨ (x2 < 0 ∨ ¬ x2 < e_n (bMa B : Nat)) ∨ (x3 < 0 ∨ ¬ x3 < e_n ((2 : Nat) : Nat))
  · refine throw_p H ?_ ?_
    · refine (e_E_11 (d := d + 9) (y := 159) rfl).trans ?_
      show e_L (d + 9) 159 0 [.ref 1, .int x, .int x2, .int x3, .null, .null, .null, .null, .null, .null, .null, .null, .null] [] (mk I z) = _
      rw [C159_0, hmc]
      by_cases h1 : x < 0 ∨ ¬ x < e_n (bMa B : Nat)
      · rw [if_pos h1]; rfl
      · rw [if_neg h1]
        by_cases h2 : x2 < 0 ∨ ¬ x2 < e_n (bMa B : Nat)
        · rw [if_pos h2]; rfl
        · rw [if_neg h2, if_pos (show x3 < 0 ∨ ¬ x3 < e_n 2 from (hm.resolve_left h1).resolve_left h2)]; rfl
    · intro J z2 HJ
      refine ⟨e_n 0, e_E_ret (d := d + 9) ?_⟩
      show e_L (d + 9) 286 0 [.ref 489, .int x, .int x2, .int x3, .null, .null, .null, .null, .null, .null, .null] [] (mk J z2) = _
      by_cases h1 : x < 0 ∨ ¬ x < e_n (bMa B : Nat)
      · rw [C286_0, c243n (RB_0 (rel_rb HJ)) K0 h1, e_rI_i, C286_10, if_pos (by decide)]
      · rw [C286_0, c243y (RB_0 (rel_rb HJ)) K0 h1, e_rI_i, C286_10, if_neg (by decide)]
        by_cases h2 : x2 < 0 ∨ ¬ x2 < e_n (bMa B : Nat)
        · rw [c243n (RB_0 (rel_rb HJ)) K0 h2, e_rI_i, C286_18, if_pos (by decide)]
        · rw [c243y (RB_0 (rel_rb HJ)) K0 h2, e_rI_i, C286_18, if_neg (by decide), c246n (x2 := e_n 1) (k := 1) rfl (by decide) K0 ((hm.resolve_left h1).resolve_left h2), e_rI_i, C286_27, if_pos (by decide)]
  have hm1 : ¬ (x < 0 ∨ ¬ x < e_n (bMa B : Nat)) := fun h => hm (Or.inl h)
  have hm2 : ¬ (x2 < 0 ∨ ¬ x2 < e_n (bMa B : Nat)) := fun h => hm (Or.inr (Or.inl h))
  have hm3 : ¬ (x3 < 0 ∨ ¬ x3 < e_n ((2 : Nat) : Nat)) := fun h => hm (Or.inr (Or.inr h))
  have pre : ∀ (J : Nat → Nat → Int32) (z2 : e_Z), Rel J z2 B → ¬ x = x2 → e_L (d + 9) 286 0 [.ref 489, .int x, .int x2, .int x3, .null, .null, .null, .null, .null, .null, .null] [] (mk J z2) = e_L (d + 9) 286 45 [.ref 489, .int x, .int x2, .int x3, .null, .null, .null, .null, .null, .null, .null] [.int (e_n 1)] (mk (e_u J 489 0 (e_n 0)) z2) := by
    intro J z2 HJ hne
    rw [C286_0, c243y (RB_0 (rel_rb HJ)) K0 hm1, e_rI_i, C286_10, if_neg (by decide), c243y (RB_0 (rel_rb HJ)) K0 hm2, e_rI_i, C286_18, if_neg (by decide), c246y (x2 := e_n 1) (k := 1) rfl (by decide) K0 hm3, e_rI_i, C286_27, if_neg (by decide), right_y K0 hne, e_rI_i]
  by_cases hxx : x = x2
  · refine throw_q H ?_ ?_
    · refine (e_E_11 (d := d + 9) (y := 159) rfl).trans ?_
      show e_L (d + 9) 159 0 [.ref 1, .int x, .int x2, .int x3, .null, .null, .null, .null, .null, .null, .null, .null, .null] [] (mk I z) = _
      rw [C159_0, hmc, if_neg hm1, if_neg hm2, if_neg (show ¬ (x3 < 0 ∨ ¬ x3 < e_n 2) from hm3), if_pos hxx]; rfl
    · intro J z2 HJ
      refine ⟨e_n 0, e_E_ret (d := d + 9) ?_⟩
      show e_L (d + 9) 286 0 [.ref 489, .int x, .int x2, .int x3, .null, .null, .null, .null, .null, .null, .null] [] (mk J z2) = _
      rw [C286_0, c243y (RB_0 (rel_rb HJ)) K0 hm1, e_rI_i, C286_10, if_neg (by decide), c243y (RB_0 (rel_rb HJ)) K0 hm2, e_rI_i, C286_18, if_neg (by decide), c246y (x2 := e_n 1) (k := 1) rfl (by decide) K0 hm3, e_rI_i, C286_27, if_neg (by decide), right_n K0 (fun q => q hxx) (by decide), e_rI_i, C286_45, if_pos (by decide)]
  obtain ⟨m, hmb, rfl⟩ := in_n (by omega) hm1
  obtain ⟨n, hnb, rfl⟩ := in_n (by omega) hm2
  have f1 := frS_n wb (I 515) m (bTi B) 0 (by omega)
  have f2 := frS_n wb (I 515) n (bTi B) 0 (by omega)
  generalize hf1 : frS B (I 515) m (bTi B) 0 = fa at f1
  generalize hf2 : frS B (I 515) n (bTi B) 0 = fb at f2
  have hpa := pzS_c B m fb
  have hpb := pzS_c B n fa
  have ha : ∃ a : Nat, a < 2 ∧ tf (¬ (fa = e_n (-1))) = e_n (a : Nat) ∧ (a = 1 → ¬ fa = e_n (-1)) := by
    by_cases h : fa = e_n (-1)
    · exact ⟨0, by decide, by unfold tf; exact if_neg (fun q => q h), fun q => by cases q⟩
    · exact ⟨1, by decide, by unfold tf; exact if_pos h, fun _ => h⟩
  have hbb : ∃ b : Nat, b < 2 ∧ tf (¬ (fb = e_n (-1))) = e_n (b : Nat) ∧ (b = 1 → ¬ fb = e_n (-1)) := by
    by_cases h : fb = e_n (-1)
    · exact ⟨0, by decide, by unfold tf; exact if_neg (fun q => q h), fun q => by cases q⟩
    · exact ⟨1, by decide, by unfold tf; exact if_pos h, fun _ => h⟩
  obtain ⟨a, ha2, ta, hane⟩ := ha
  obtain ⟨b, hb2, tb, hbne⟩ := hbb
  have hbe := bg_eq a ha2 b hb2 _ _ hpa hpb
  refine face_rd H (r := .inl (if x3 = 0 then (bgD a b (pzS B m fb) (pzS B n fa) 4 (e_n 0, e_n (-1))).1 else (bgD a b (pzS B m fb) (pzS B n fa) 4 (e_n 0, e_n (-1))).2)) (I1 := I) (zs_rf z) rfl (e_E_ret (d := d + 9) ?_) (fun _ _ => rfl) ?_
  · show e_L (d + 9) 159 0 [.ref 1, .int (e_n (m : Nat)), .int (e_n (n : Nat)), .int x3, .null, .null, .null, .null, .null, .null, .null, .null, .null] [] (mk I z) = _
    have hlm : I 51 1 = lm B (I 515) := (rel_mc H).2.1
    have hc1 := c10h (d := d + 6) (z := z) (M := I 515) hb wb hB hmb
    have hc2 := c10h (d := d + 6) (z := z) (M := I 515) hb wb hB hnb
    have foe : ∀ k, k < bMa B → rd I (bd z.2.1.1 + 14) (e_n (k : Nat)) = fm B (e_n (k : Nat)) (e_n 0) := fun k hk => by rw [rd_N (by rw [lnb14 hb]; omega), (hB.2.2.2.2.2.2.2.2.2.1 k hk).2.1]
    have loop : ∀ (k : Nat) (s : Int32 × Int32) u11 u12, k ≤ 4 → e_L (d + 9) 159 144 [.ref 1, .int (e_n (m : Nat)), .int (e_n (n : Nat)), .int x3, .int fa, .int fb, .int (pzS B m fb), .int (pzS B n fa), .int s.1, .int s.2, .int (e_n ((k : Int) - 1)), u11, u12] [] (mk I z) = some (.inl (some (.int (if x3 = 0 then (bgD a b (pzS B m fb) (pzS B n fa) k s).1 else (bgD a b (pzS B m fb) (pzS B n fa) k s).2))), mk I z) := by
      intro k
      induction k with
      | zero =>
        intro s u11 u12 hk
        rw [C159_144, if_pos (by decide)]; rfl
      | succ k ih =>
        intro s u11 u12 hk
        obtain ⟨j1, j2, -, -⟩ := bgj k (by omega)
        have e1 : (((k + 1 : Nat) : Int) - 1) = ((k : Nat) : Int) := by omega
        rw [e1, C159_144, if_neg (by rw [show (0 : Int32) = e_n ((0 : Nat) : Nat) from rfl, e_n_ltN (by omega) (by omega)]; omega), j1, j2, ta, tb, v160_I, e_n_add, show ((k : Nat) : Int) + -1 = (k : Int) - 1 by omega]
        have hs := ih (if okB a b (pzS B m fb) (pzS B n fa) k = true then (s.1 + e_n 1, e_n 10 * e_n ((k / 2 : Nat) : Nat) + e_n ((k % 2 : Nat) : Nat)) else s) (.int (e_n ((k / 2 : Nat) : Nat))) (.int (e_n ((k % 2 : Nat) : Nat))) (by omega)
        rw [show bgD a b (pzS B m fb) (pzS B n fa) (k + 1) s = bgD a b (pzS B m fb) (pzS B n fa) k (if okB a b (pzS B m fb) (pzS B n fa) k = true then (s.1 + e_n 1, e_n 10 * e_n ((k / 2 : Nat) : Nat) + e_n ((k % 2 : Nat) : Nat)) else s) from rfl]
        rw [← hs]
        unfold okB
        by_cases g1 : v160 (fun _ _ => 0) (e_n ((k / 2 : Nat) : Nat)) (e_n ((k % 2 : Nat) : Nat)) (pzS B m fb) (e_n (a : Nat)) = 0
        · rw [if_pos g1, if_pos g1, if_neg (show ¬ decide _ = true from fun h => (of_decide_eq_true h).1 g1)]
        · rw [if_neg g1, if_neg g1]
          by_cases g2 : v160 (fun _ _ => 0) (e_n ((k % 2 : Nat) : Nat)) (e_n ((k / 2 : Nat) : Nat)) (pzS B n fa) (e_n (b : Nat)) = 0
          · rw [if_pos g2, if_pos g2, if_neg (show ¬ decide _ = true from fun h => (of_decide_eq_true h).2 g2)]
          · rw [if_neg g2, if_neg g2, if_pos (show decide _ = true from decide_eq_true ⟨g1, g2⟩)]
    have hpa' : (if fb = e_n (-1) then e_n 0 else if rd I (bd z.2.1.1 + 14) (e_n (m : Nat)) &&& e_shl (e_n 1) fb = 0 then e_n 0 else e_n 5) = pzS B m fb := by rw [foe m hmb]; rfl
    have hpb' : (if fa = e_n (-1) then e_n 0 else if rd I (bd z.2.1.1 + 14) (e_n (n : Nat)) &&& e_shl (e_n 1) fa = 0 then e_n 0 else e_n 5) = pzS B n fa := by rw [foe n hnb]; rfl
    rw [C159_0, hmc, if_neg hm1, if_neg hm2, if_neg (show ¬ (x3 < 0 ∨ ¬ x3 < e_n 2) from hm3), if_neg hxx, hlm, hc1, e_rI_i, C159_49, hlm, hc2, e_rI_i, hf1, hf2, C159_69, hpa', hpb']
    exact loop 4 (e_n 0, e_n (-1)) .null .null (by decide)
  · intro J z2 HJ hq
    rw [hbe]
    have rb := RB_0 (v := e_n 0) (rel_rb HJ)
    have hM : e_u J 489 0 (e_n 0) 515 = I 515 := by rw [K515 (by decide), hq 515 (by decide)]
    refine ⟨e_u J 489 0 (e_n 0), _, e_E_ret (d := d + 9) ((pre J z2 HJ hxx).trans ?_), RfE_0, K0, rfl⟩
    generalize e_u J 489 0 (e_n 0) = G at rb hM
    have g1 : ∀ c o, c < 2 → o < 2 → (o = 1 → b = 1) → e_E (d + 7 + 2) 285 [.ref 489, .int (e_n (m : Nat)), .int (e_n (n : Nat)), .int (e_n (c : Nat)), .int (e_n (o : Nat))] (mk G z2) = some (.inl (some (.int (v161 (fun _ _ => 0) (e_n (c : Nat)) (e_n (o : Nat)) (pzS B m fb)))), mk G z2) := by
      intro c o hc ho hob
      have := c285h (d := d + 7) (m := m) (n := n) (z := z2) wb rb hM hc ho (fun h => by rw [hf2]; exact hbne (hob h))
      rw [hf2] at this
      exact this
    have g2 : ∀ c o, c < 2 → o < 2 → (o = 1 → a = 1) → e_E (d + 7 + 2) 285 [.ref 489, .int (e_n (n : Nat)), .int (e_n (m : Nat)), .int (e_n (c : Nat)), .int (e_n (o : Nat))] (mk G z2) = some (.inl (some (.int (v161 (fun _ _ => 0) (e_n (c : Nat)) (e_n (o : Nat)) (pzS B n fa)))), mk G z2) := by
      intro c o hc ho hob
      have := c285h (d := d + 7) (m := n) (n := m) (z := z2) wb rb hM hc ho (fun h => by rw [hf1]; exact hane (hob h))
      rw [hf1] at this
      exact this
    have up : ∀ (k j : Nat) (s : Int32 × Int32) u9 u10, j + k = 4 → e_L (d + 9) 286 91 [.ref 489, .int (e_n (m : Nat)), .int (e_n (n : Nat)), .int x3, .int (e_n (a : Nat)), .int (e_n (b : Nat)), .int s.1, .int s.2, .int (e_n (j : Nat)), u9, u10] [] (mk G z2) = some (.inl (some (.int (if x3 = 0 then (bgU a b (pzS B m fb) (pzS B n fa) k j s).1 else (bgU a b (pzS B m fb) (pzS B n fa) k j s).2))), mk G z2) := by
      intro k
      induction k with
      | zero =>
        intro j s u9 u10 hj
        have : j = 4 := by omega
        subst this
        rw [C286_91, if_neg (by decide)]; rfl
      | succ k ih =>
        intro j s u9 u10 hj
        obtain ⟨-, -, j3, j4⟩ := bgj j (by omega)
        have hc : j / 2 < 2 := by omega
        have ho : j % 2 < 2 := by omega
        have ok1 : okB a b (pzS B m fb) (pzS B n fa) j = decide (¬ v160 (fun _ _ => 0) (e_n ((j / 2 : Nat) : Nat)) (e_n ((j % 2 : Nat) : Nat)) (pzS B m fb) (e_n (a : Nat)) = 0 ∧ ¬ v160 (fun _ _ => 0) (e_n ((j % 2 : Nat) : Nat)) (e_n ((j / 2 : Nat) : Nat)) (pzS B n fa) (e_n (b : Nat)) = 0) := rfl
        have hs : ∀ s', e_L (d + 9) 286 91 [.ref 489, .int (e_n (m : Nat)), .int (e_n (n : Nat)), .int x3, .int (e_n (a : Nat)), .int (e_n (b : Nat)), .int s'.1, .int s'.2, .int (e_n ((j + 1 : Nat) : Nat)), .int (e_n ((j / 2 : Nat) : Nat)), .int (e_n ((j % 2 : Nat) : Nat))] [] (mk G z2) = some (.inl (some (.int (if x3 = 0 then (bgU a b (pzS B m fb) (pzS B n fa) k (j + 1) s').1 else (bgU a b (pzS B m fb) (pzS B n fa) k (j + 1) s').2))), mk G z2) := fun s' => ih (j + 1) s' _ _ (by omega)
        have hU : bgU a b (pzS B m fb) (pzS B n fa) (k + 1) j s = bgU a b (pzS B m fb) (pzS B n fa) k (j + 1) (if okB a b (pzS B m fb) (pzS B n fa) j = true then (s.1 + e_n 1, if s.2 = e_n (-1) then e_n 10 * e_n ((j / 2 : Nat) : Nat) + e_n ((j % 2 : Nat) : Nat) else s.2) else s) := rfl
        rw [hU]
        clear hU
        rw [C286_91, if_pos (by rw [show (e_n 4) = e_n ((4 : Nat) : Nat) from rfl, e_n_ltN (by omega) (by omega)]; omega), j3, j4, e_n_succ]
        generalize j / 2 = c at hc ok1 hs
        generalize j % 2 = o at ho ok1 hs
        generalize okB a b (pzS B m fb) (pzS B n fa) j = ok at ok1
        have no : ok = false → e_L (d + 9) 286 91 [.ref 489, .int (e_n (m : Nat)), .int (e_n (n : Nat)), .int x3, .int (e_n (a : Nat)), .int (e_n (b : Nat)), .int s.1, .int s.2, .int (e_n ((j + 1 : Nat) : Nat)), .int (e_n (c : Nat)), .int (e_n (o : Nat))] [] (mk G z2) = some (.inl (some (.int (if x3 = 0 then (bgU a b (pzS B m fb) (pzS B n fa) k (j + 1) (if ok = true then (s.1 + e_n 1, if s.2 = e_n (-1) then e_n 10 * e_n (c : Nat) + e_n (o : Nat) else s.2) else s)).1 else (bgU a b (pzS B m fb) (pzS B n fa) k (j + 1) (if ok = true then (s.1 + e_n 1, if s.2 = e_n (-1) then e_n 10 * e_n (c : Nat) + e_n (o : Nat) else s.2) else s)).2))), mk G z2) := fun h => by
          rw [if_neg (show ¬ ok = true from fun q => by rw [h] at q; cases q)]
          exact hs s
        have yes : ok = true → e_L (d + 9) 286 91 [.ref 489, .int (e_n (m : Nat)), .int (e_n (n : Nat)), .int x3, .int (e_n (a : Nat)), .int (e_n (b : Nat)), .int (s.1 + e_n 1), .int (if s.2 = e_n (-1) then e_n 10 * e_n (c : Nat) + e_n (o : Nat) else s.2), .int (e_n ((j + 1 : Nat) : Nat)), .int (e_n (c : Nat)), .int (e_n (o : Nat))] [] (mk G z2) = some (.inl (some (.int (if x3 = 0 then (bgU a b (pzS B m fb) (pzS B n fa) k (j + 1) (if ok = true then (s.1 + e_n 1, if s.2 = e_n (-1) then e_n 10 * e_n (c : Nat) + e_n (o : Nat) else s.2) else s)).1 else (bgU a b (pzS B m fb) (pzS B n fa) k (j + 1) (if ok = true then (s.1 + e_n 1, if s.2 = e_n (-1) then e_n 10 * e_n (c : Nat) + e_n (o : Nat) else s.2) else s)).2))), mk G z2) := fun h => by
          rw [if_pos h]
          exact hs (s.1 + e_n 1, if s.2 = e_n (-1) then e_n 10 * e_n (c : Nat) + e_n (o : Nat) else s.2)
        have lt2 : ∀ u v : Nat, u < 2 → v < 2 → (e_n (u : Nat) < e_n (v : Nat)) = (u < v) := fun u v h1 h2 => e_n_ltN (by omega) (by omega)
        have w0 : ∀ (u v : Nat) (p : Int32), u = 1 → v160 (fun _ _ => 0) (e_n (u : Nat)) (e_n (v : Nat)) p (e_n ((0 : Nat) : Nat)) = 0 := fun u v p h => by rw [h]; rfl
        have w1 : ∀ (v : Nat) (p : Int32), ¬ v160 (fun _ _ => 0) (e_n ((0 : Nat) : Nat)) (e_n (v : Nat)) p (e_n ((0 : Nat) : Nat)) = 0 := fun v p h => absurd (show e_n 1 = 0 from h) (by decide)
        have w2 : ∀ (u v : Nat) (p : Int32), (v160 (fun _ _ => 0) (e_n (u : Nat)) (e_n (v : Nat)) p (e_n ((1 : Nat) : Nat)) = 0) = (v161 (fun _ _ => 0) (e_n (u : Nat)) (e_n (v : Nat)) p < v161 (fun _ _ => 0) (e_n 1 - e_n (u : Nat)) (e_n (v : Nat)) p) := fun u v p => by
          unfold v160
          rw [if_neg (show ¬ e_n ((1 : Nat) : Nat) = 0 by decide), tf_eq0, Decidable.not_not]
        have sub1 : ∀ u : Nat, u < 2 → e_n 1 - e_n (u : Nat) = e_n ((1 - u : Nat) : Nat) := fun u hu => by rw [e_n_sub]; congr 1; omega
        by_cases ac : a < c
        · have a0 : a = 0 := by omega
          have c1 : c = 1 := by omega
          rw [if_pos (by rw [lt2 a c ha2 hc]; exact ac)]
          refine no ?_
          rw [ok1, decide_eq_false_iff_not]
          intro h
          rw [a0] at h
          exact h.1 (w0 c o _ c1)
        rw [if_neg (by rw [lt2 a c ha2 hc]; exact ac)]
        by_cases bo : b < o
        · have b0 : b = 0 := by omega
          have o1 : o = 1 := by omega
          rw [if_pos (by rw [lt2 b o hb2 ho]; exact bo)]
          refine no ?_
          rw [ok1, decide_eq_false_iff_not]
          intro h
          rw [b0] at h
          exact h.2 (w0 o c _ o1)
        rw [if_neg (by rw [lt2 b o hb2 ho]; exact bo)]
        have okb : (v160 (fun _ _ => 0) (e_n (c : Nat)) (e_n (o : Nat)) (pzS B m fb) (e_n (a : Nat)) = 0) → ok = false := fun h => by rw [ok1, decide_eq_false_iff_not]; exact fun q => q.1 h
        have okc : (v160 (fun _ _ => 0) (e_n (o : Nat)) (e_n (c : Nat)) (pzS B n fa) (e_n (b : Nat)) = 0) → ok = false := fun h => by rw [ok1, decide_eq_false_iff_not]; exact fun q => q.2 h
        have okd : ¬ (v160 (fun _ _ => 0) (e_n (c : Nat)) (e_n (o : Nat)) (pzS B m fb) (e_n (a : Nat)) = 0) → ¬ (v160 (fun _ _ => 0) (e_n (o : Nat)) (e_n (c : Nat)) (pzS B n fa) (e_n (b : Nat)) = 0) → ok = true := fun h h2 => by rw [ok1]; exact decide_eq_true ⟨h, h2⟩
        -- the other's half
        have half : ¬ (v160 (fun _ _ => 0) (e_n (c : Nat)) (e_n (o : Nat)) (pzS B m fb) (e_n (a : Nat)) = 0) → b = 1 → e_rI (e_E (d + 9) 285 [.ref 489, .int (e_n (n : Nat)), .int (e_n (m : Nat)), .int (e_n 1 - e_n (o : Nat)), .int (e_n (c : Nat))] (mk G z2)) (fun v σ => e_L (d + 9) 286 175 [.ref 489, .int (e_n (m : Nat)), .int (e_n (n : Nat)), .int x3, .int (e_n (a : Nat)), .int (e_n (b : Nat)), .int s.1, .int s.2, .int (e_n (j : Nat)), .int (e_n (c : Nat)), .int (e_n (o : Nat))] [.int v] σ) = fun _ => some (.inl (some (.int (if x3 = 0 then (bgU a b (pzS B m fb) (pzS B n fa) k (j + 1) (if ok = true then (s.1 + e_n 1, if s.2 = e_n (-1) then e_n 10 * e_n (c : Nat) + e_n (o : Nat) else s.2) else s)).1 else (bgU a b (pzS B m fb) (pzS B n fa) k (j + 1) (if ok = true then (s.1 + e_n 1, if s.2 = e_n (-1) then e_n 10 * e_n (c : Nat) + e_n (o : Nat) else s.2) else s)).2))), mk G z2) := by
          intro h1 b1
          funext E
          have ca : c = 1 → a = 1 := fun h => by omega
          have hh := w2 o c (pzS B n fa)
          rw [sub1 o ho] at hh
          rw [sub1 o ho, g2 (1 - o) c (by omega) hc ca, e_rI_i, C286_175, g2 o c ho hc ca, e_rI_i, C286_185, e_n_succ]
          rw [b1] at okc okd
          by_cases hlt : v161 (fun _ _ => 0) (e_n (o : Nat)) (e_n (c : Nat)) (pzS B n fa) < v161 (fun _ _ => 0) (e_n ((1 - o : Nat) : Nat)) (e_n (c : Nat)) (pzS B n fa)
          · rw [if_pos hlt, if_pos hlt]
            exact no (okc (hh.mpr hlt))
          · rw [if_neg hlt, if_neg hlt]
            exact yes (okd h1 (fun q => hlt (hh.mp q)))
        have hbo : ¬ b = 1 → b = 0 ∧ o = 0 := fun h => by omega
        have e1b : (e_n (b : Nat) = e_n 1) ↔ b = 1 := by
          constructor
          · intro h
            have := (e_n_inj (a := b) (b := 1) (by omega) (by omega) (by omega) (by omega)).mp h
            omega
          · intro h; rw [h]; rfl
        have e1a : (e_n (a : Nat) = e_n 1) ↔ a = 1 := by
          constructor
          · intro h
            have := (e_n_inj (a := a) (b := 1) (by omega) (by omega) (by omega) (by omega)).mp h
            omega
          · intro h; rw [h]; rfl
        have fin : ¬ (v160 (fun _ _ => 0) (e_n (c : Nat)) (e_n (o : Nat)) (pzS B m fb) (e_n (a : Nat)) = 0) → ¬ b = 1 → ok = true := fun h hb1 => by
          obtain ⟨b0, o0⟩ := hbo hb1
          refine okd h ?_
          rw [b0, o0]
          exact w1 c _
        by_cases a1 : a = 1
        · have ob : o = 1 → b = 1 := fun h => by omega
          subst a1
          have hh := w2 c o (pzS B m fb)
          rw [sub1 c hc] at hh
          rw [if_pos (e1a.mpr rfl), sub1 c hc, g1 (1 - c) o (by omega) ho ob, e_rI_i, C286_144, g1 c o hc ho ob, e_rI_i, C286_154]
          by_cases hlt : v161 (fun _ _ => 0) (e_n (c : Nat)) (e_n (o : Nat)) (pzS B m fb) < v161 (fun _ _ => 0) (e_n ((1 - c : Nat) : Nat)) (e_n (o : Nat)) (pzS B m fb)
          · rw [if_pos hlt, e_n_succ]
            exact no (okb (hh.mpr hlt))
          · rw [if_neg hlt]
            have h1 := fun q => hlt (hh.mp q)
            by_cases b1 : b = 1
            · rw [if_pos (e1b.mpr b1), half h1 b1]
            · rw [if_neg (fun q => b1 (e1b.mp q)), e_n_succ]
              exact yes (fin h1 b1)
        · have a0 : a = 0 := by omega
          have c0 : c = 0 := by omega
          have h1 : ¬ (v160 (fun _ _ => 0) (e_n (c : Nat)) (e_n (o : Nat)) (pzS B m fb) (e_n (a : Nat)) = 0) := by rw [a0, c0]; exact w1 o _
          rw [if_neg (fun q => a1 (e1a.mp q))]
          by_cases b1 : b = 1
          · rw [if_pos (e1b.mpr b1), half h1 b1]
          · rw [if_neg (fun q => b1 (e1b.mp q))]
            exact yes (fin h1 b1)
    have hpre := up 4 0 (e_n 0, e_n (-1)) .null .null (by decide)
    rw [C286_45, if_neg (by decide), c284h (d := d + 8) wb rb hM, e_rI_i, hf1, C286_55, c284h (d := d + 8) wb rb hM, e_rI_i, hf2, C286_71, ta, tb]
    exact hpre
end S99i
