/-! instead -/
section S92
/-- the run with one passed over, against the run without -/
def CoI (p : Nat) (S S' : e_T) : Prop :=
  (∃ k : Nat, k ≤ 9 ∧ S 0 = S' 0 ∧ S 4 0 = e_n (k : Nat) ∧ S' 4 0 = e_n (k : Nat) ∧ (∀ i, i < k → S 1 i = S' 1 i ∧ ¬ S 1 i = e_n (p : Nat)))
  ∨ (∃ o k k' : Nat, k ≤ 9 ∧ k' ≤ 9 ∧ o < k ∧ o ≤ k' ∧ S 4 0 = e_n (k : Nat) ∧ S' 4 0 = e_n (k' : Nat) ∧ S 1 o = e_n (p : Nat) ∧ (∀ i, i < o → S 1 i = S' 1 i ∧ ¬ S 1 i = e_n (p : Nat)) ∧ ∀ i, i < k' → ¬ S' 1 i = e_n (p : Nat))
theorem wr1_nm {B : e_B} {S : e_T} {sk n : Int32} {m k : Nat} (wb4 : bPe B ≤ 9) (hk : S 4 0 = e_n (k : Nat)) (hk9 : k ≤ 9) : ((chS B sk (S 0) m).1 = e_n (-1) ∧ (wr1 B sk m (n, S)).2 = S) ∨ (∃ c : Nat, c < bPe B ∧ (chS B sk (S 0) m).1 = e_n (c : Nat) ∧ ¬ e_n (c : Nat) = sk ∧ (wr1 B sk m (n, S)).2 4 0 = e_n ((k + 1 : Nat) : Nat) ∧ (∀ i, (wr1 B sk m (n, S)).2 1 i = if i = k then e_n (c : Nat) else S 1 i) ∧ (wr1 B sk m (n, S)).2 0 = entS S c (e_n (m : Nat)) 0) := by
  rcases chS_sp B sk (S 0) m with hc | ⟨p, hp, hc, hM, hs⟩
  · refine Or.inl ⟨hc, ?_⟩
    unfold wr1; simp only [hc, if_true]
  · refine Or.inr ⟨p, hp, hc, hs, ?_⟩
    have hcn : ¬ e_n (p : Nat) = e_n (-1) := e_n_neg1 (by omega)
    have hpn : (e_n (p : Nat)).toNatClampNeg = p := e_n_nat' (by omega)
    have hkn : (S 4 0).toNatClampNeg = k := by rw [hk]; exact e_n_nat' (by omega)
    have hw : (wr1 B sk m (n, S)).2 = e_u (e_u (entS S p (e_n (m : Nat))) 1 k (e_n (p : Nat))) 4 0 (S 4 0 + e_n 1) := by
      unfold wr1
      simp only [hc, hcn, if_false, hpn, hkn]
    rw [hw]
    refine ⟨by rw [e_u_same, hk, e_n_succ], fun i => ?_, ?_⟩
    · rw [e_u_na (by decide), e_u_at, entr _ _ _ (by decide)]
    · rw [e_u_na (by decide), e_u_na (by decide)]
theorem co_wr1 {B : e_B} {S S' : e_T} {n n' : Int32} {m p : Nat} (wb : WB B) (hp : p < bPe B) (hm : m < bMa B) (ws : WS B S) (ws' : WS B S') (H : CoI p S S') : CoI p (wr1 B (e_n (-1)) m (n, S)).2 (wr1 B (e_n (p : Nat)) m (n', S')).2 := by
  have wb4 : bPe B ≤ 9 := wb.2.2.2.1
  obtain ⟨K, hK9, hK⟩ := WS_4 (ws_wr1 (sk := e_n (-1)) (n := n) wb ws hm).1
  obtain ⟨K', hK9', hK'⟩ := WS_4 (ws_wr1 (sk := e_n (p : Nat)) (n := n') wb ws' hm).1
  rcases H with ⟨k, k9, h0, hk, hk', hnm⟩ | ⟨o, k, k', k9, k9', hok, hok', hk, hk', ho, hnm, hno⟩
  · have hcs := wr1_nm (sk := e_n (-1)) (n := n) (m := m) wb4 hk k9
    have hcs' := wr1_nm (sk := e_n (p : Nat)) (n := n') (m := m) wb4 hk' k9
    rw [h0] at hcs
    by_cases hcp : (chS B (e_n (-1)) (S' 0) m).1 = e_n (p : Nat)
    · -- the one is written in one run alone
      rcases hcs with ⟨h1, -⟩ | ⟨c, hc, h1, -, h3, h4, h5⟩
      · exact absurd (hcp.symm.trans h1) (e_n_neg1 (by omega))
      · have hcp2 : c = p := by
          have := h1.symm.trans hcp
          rw [e_n_inj (by omega) (by omega) (by omega) (by omega)] at this; omega
        subst hcp2
        have hk1 : k + 1 ≤ 9 := by
          rw [h3, e_n_inj (by omega) (by omega) (by omega) (by omega)] at hK; omega
        rcases hcs' with ⟨-, h6⟩ | ⟨c', hc', -, h7, h8, h9, -⟩
        · refine Or.inr ⟨k, k + 1, k, hk1, k9, by omega, Nat.le_refl _, h3, by rw [h6]; exact hk', by rw [h4, if_pos rfl], fun i hi => ?_, fun i hi => ?_⟩
          · rw [h4, if_neg (by omega), h6]; exact hnm i hi
          · rw [h6, ← (hnm i hi).1]; exact (hnm i hi).2
        · have hk1' : k + 1 ≤ 9 := hk1
          refine Or.inr ⟨k, k + 1, k + 1, hk1, hk1', by omega, by omega, h3, h8, by rw [h4, if_pos rfl], fun i hi => ?_, fun i hi => ?_⟩
          · rw [h4, if_neg (by omega), h9, if_neg (by omega)]; exact hnm i hi
          · rw [h9]
            by_cases hik : i = k
            · rw [if_pos hik]; exact h7
            · rw [if_neg hik, ← (hnm i (by omega)).1]; exact (hnm i (by omega)).2
    · have hsk := chS_skip wb4 hp hcp
      rw [hsk] at hcs'
      rcases hcs with ⟨h1, h2⟩ | ⟨c, hc, h1, -, h3, h4, h5⟩
      · rcases hcs' with ⟨-, h6⟩ | ⟨c', hc', h6, -⟩
        · rw [h2, h6]
          exact Or.inl ⟨k, k9, h0, hk, hk', hnm⟩
        · exact absurd (h6.symm.trans h1) (e_n_neg1 (by omega))
      · have hk1 : k + 1 ≤ 9 := by
          rw [h3, e_n_inj (by omega) (by omega) (by omega) (by omega)] at hK; omega
        rcases hcs' with ⟨h6, -⟩ | ⟨c', hc', h6, h7, h8, h9, h10⟩
        · exact absurd (h1.symm.trans h6) (e_n_neg1 (by omega))
        · have hcc : c' = c := by
            have := h6.symm.trans h1
            rw [e_n_inj (by omega) (by omega) (by omega) (by omega)] at this; omega
          subst hcc
          refine Or.inl ⟨k + 1, hk1, ?_, h3, h8, fun i hi => ?_⟩
          · rw [h5, h10]; exact ent_0 h0
          · rw [h4, h9]
            by_cases hik : i = k
            · rw [if_pos hik, if_pos hik]; exact ⟨rfl, h7⟩
            · rw [if_neg hik, if_neg hik]; exact hnm i (by omega)
  · have hcs := wr1_nm (sk := e_n (-1)) (n := n) (m := m) wb4 hk k9
    have hcs' := wr1_nm (sk := e_n (p : Nat)) (n := n') (m := m) wb4 hk' k9'
    -- what the one run does more
    have hA : ∃ k2, k2 ≤ 9 ∧ o < k2 ∧ (wr1 B (e_n (-1)) m (n, S)).2 4 0 = e_n (k2 : Nat) ∧ ∀ i, i ≤ o → (wr1 B (e_n (-1)) m (n, S)).2 1 i = S 1 i := by
      rcases hcs with ⟨-, h2⟩ | ⟨c, hc, h1, -, h3, h4, h5⟩
      · rw [h2]; exact ⟨k, k9, hok, hk, fun _ _ => rfl⟩
      · have hk1 : k + 1 ≤ 9 := by
          rw [h3, e_n_inj (by omega) (by omega) (by omega) (by omega)] at hK; omega
        exact ⟨k + 1, hk1, by omega, h3, fun i hi => by rw [h4, if_neg (by omega)]⟩
    have hB : ∃ k2, k2 ≤ 9 ∧ o ≤ k2 ∧ (wr1 B (e_n (p : Nat)) m (n', S')).2 4 0 = e_n (k2 : Nat) ∧ (∀ i, i < o → (wr1 B (e_n (p : Nat)) m (n', S')).2 1 i = S' 1 i) ∧ ∀ i, i < k2 → ¬ (wr1 B (e_n (p : Nat)) m (n', S')).2 1 i = e_n (p : Nat) := by
      rcases hcs' with ⟨-, h2⟩ | ⟨c, hc, h1, h7, h3, h4, h5⟩
      · rw [h2]; exact ⟨k', k9', hok', hk', fun _ _ => rfl, hno⟩
      · have hk1 : k' + 1 ≤ 9 := by
          rw [h3, e_n_inj (by omega) (by omega) (by omega) (by omega)] at hK'; omega
        refine ⟨k' + 1, hk1, by omega, h3, fun i hi => by rw [h4, if_neg (by omega)], fun i hi => ?_⟩
        rw [h4]
        by_cases hik : i = k'
        · rw [if_pos hik]; exact h7
        · rw [if_neg hik]; exact hno i (by omega)
    obtain ⟨k2, x1, x2, x3, x4⟩ := hA
    obtain ⟨k3, y1, y2, y3, y4, y5⟩ := hB
    exact Or.inr ⟨o, k2, k3, x1, y1, x2, y2, x3, y3, by rw [x4 o (Nat.le_refl _)]; exact ho, fun i hi => by rw [x4 i (by omega), y4 i hi]; exact hnm i hi, y5⟩
theorem itr_two {α β : Type} {f : Nat → α → α} {g : Nat → β → β} (P : α → β → Prop) : ∀ (n i : Nat) (s : α) (t : β), P s t → (∀ j s t, i ≤ j → j < i + n → P s t → P (f j s) (g j t)) → P (itr f n i s) (itr g n i t)
  | 0, _, _, _, h, _ => h
  | n + 1, i, s, t, h, hs => itr_two P n (i + 1) _ _ (hs i s t (Nat.le_refl _) (by omega) h) (fun j s t h1 h2 => hs j s t (by omega) (by omega))
theorem co_mo {B : e_B} {S S' : e_T} {p k t : Nat} (wb : WB B) (hp : p < bPe B) (hk : k < 30) (ht : t < 60) (hd : S 0 0 = e_n (t : Nat)) (hd' : S' 0 0 = e_n (t : Nat)) (ws : WS B S) (ws' : WS B S') (H : CoI p S S') : CoI p (moS B (e_n (-1)) k S) (moS B (e_n (p : Nat)) k S') := by
  have wb4 : bPe B ≤ 9 := wb.2.2.2.1
  -- writing
  have hw : CoI p (wrS B (e_n (-1)) S).2 (wrS B (e_n (p : Nat)) S').2 ∨ (¬ S 0 3 = S' 0 3) := by
    by_cases ho : S 0 3 = S' 0 3
    · left
      unfold wrS
      rw [ho]
      split
      · exact (itr_two (f := wr1 B (e_n (-1))) (g := wr1 B (e_n (p : Nat))) (fun (a b : Int32 × e_T) => CoI p a.2 b.2 ∧ WS B a.2 ∧ WS B b.2) (bMa B) 0 _ _ ⟨H, ws, ws'⟩ (fun j a b _ hj h => ⟨co_wr1 (n := a.1) (n' := b.1) wb hp (by omega) h.2.1 h.2.2 h.1, (ws_wr1 (sk := e_n (-1)) (n := a.1) wb h.2.1 (by omega)).1, (ws_wr1 (sk := e_n (p : Nat)) (n := b.1) wb h.2.2 (by omega)).1⟩)).1
      · exact H
    · exact Or.inr ho
  have key : ∀ (sk : Int32) (S : e_T), (moS B sk k S) 4 0 = (wrS B sk S).2 4 0 ∧ (∀ i, moS B sk k S 1 i = (wrS B sk S).2 1 i) ∧ moS B sk k S 0 = mo0 B sk S := by
    intro sk S
    generalize hS1 : (if (wrS B sk S).1 = e_n 0 ∧ S 4 2 = e_n (-1) then e_u (wrS B sk S).2 4 2 (S 0 0) else (wrS B sk S).2) = S1
    have s40 : S1 4 0 = (wrS B sk S).2 4 0 := by
      rw [← hS1]; split
      · exact e_u_ne (by decide)
      · rfl
    have s1 : S1 1 = (wrS B sk S).2 1 := by
      rw [← hS1]; split
      · exact e_u_na (by decide)
      · rfl
    obtain ⟨b1, b2, b3⟩ := fnS_k (B := B) (S := S1)
    have hmo : moS B sk k S = e_u (e_u (e_u (e_u (fnS B S1).2 5 k (wrS B sk S).1) 6 k (fnS B S1).1) 7 k (lm B ((fnS B S1).2 0))) 0 0 (e_u (e_u (e_u (fnS B S1).2 5 k (wrS B sk S).1) 6 k (fnS B S1).1) 7 k (lm B ((fnS B S1).2 0)) 0 0 + e_n 1) := by
      unfold moS
      simp only [hS1, if_pos hk]
    refine ⟨?_, fun i => ?_, moS_0⟩
    · rw [hmo]; simp (disch := decide) only [e_u_na]; rw [b2 0 (by decide), s40]
    · rw [hmo]; simp (disch := decide) only [e_u_na]; rw [b1 1 (by decide) (by decide) (by decide) (by decide), s1]
  have kS := key (e_n (-1)) S
  have kS' := key (e_n (p : Nat)) S'
  have fin : CoI p (wrS B (e_n (-1)) S).2 (wrS B (e_n (p : Nat)) S').2 → CoI p (moS B (e_n (-1)) k S) (moS B (e_n (p : Nat)) k S') := by
    rintro (⟨k, k9, h0, hk, hk', hnm⟩ | ⟨o, k, k', k9, k9', hok, hok', hk, hk', ho, hnm, hno⟩)
    · refine Or.inl ⟨k, k9, ?_, by rw [kS.1]; exact hk, by rw [kS'.1]; exact hk', fun i hi => by rw [kS.2.1, kS'.2.1]; exact hnm i hi⟩
      rw [kS.2.2, kS'.2.2]
      unfold mo0
      have h1 : (fnS B (wrS B (e_n (-1)) S).2).2 0 = (fnS B (wrS B (e_n (p : Nat)) S').2).2 0 := itr_fn0 _ _ _ _ h0
      rw [h1]
    · exact Or.inr ⟨o, k, k', k9, k9', hok, hok', by rw [kS.1]; exact hk, by rw [kS'.1]; exact hk', by rw [kS.2.1]; exact ho, fun i hi => by rw [kS.2.1, kS'.2.1]; exact hnm i hi, fun i hi => by rw [kS'.2.1]; exact hno i hi⟩
  rcases hw with h | h
  · exact fin h
  · -- open in one of the two alone: never, but it needs no proof that it is
    rcases H with ⟨k, k9, h0, -⟩ | ⟨o, k0, k', k9, k9', hok, hok', hk0, hk', ho, hnm, hno⟩
    · exact absurd (by rw [h0]) h
    · apply fin
      -- both grow on their own
      have one : ∀ (sk n : Int32) (S : e_T), WS B S → (∃ q : Nat, q ≤ 9 ∧ o < q ∧ S 4 0 = e_n (q : Nat)) → (∃ q : Nat, q ≤ 9 ∧ o < q ∧ (wrS B sk S).2 4 0 = e_n (q : Nat)) ∧ ∀ i, i ≤ o → (wrS B sk S).2 1 i = S 1 i := by
        intro sk n S ws hq
        unfold wrS
        split
        · have := itr_two (f := wr1 B sk) (g := wr1 B sk) (fun (a _ : Int32 × e_T) => WS B a.2 ∧ (∃ q : Nat, q ≤ 9 ∧ o < q ∧ a.2 4 0 = e_n (q : Nat)) ∧ ∀ i, i ≤ o → a.2 1 i = S 1 i) (bMa B) 0 (e_n 0, S) (e_n 0, S) ⟨ws, hq, fun _ _ => rfl⟩ (fun j a b _ hj h => by
            obtain ⟨w, ⟨q, q9, hoq, hq4⟩, hi⟩ := h
            have w2 := (ws_wr1 (sk := sk) (n := a.1) wb w (show j < bMa B by omega)).1
            obtain ⟨K, hK9, hK⟩ := WS_4 w2
            rcases wr1_nm (sk := sk) (n := a.1) (m := j) wb4 hq4 q9 with ⟨-, h2⟩ | ⟨c, hc, -, -, h3, h4, -⟩
            · have h2 : (wr1 B sk j a).2 = a.2 := h2
              rw [h2]; exact ⟨w, ⟨q, q9, hoq, hq4⟩, hi⟩
            · have h3 : (wr1 B sk j a).2 4 0 = e_n ((q + 1 : Nat) : Nat) := h3
              have hK : (wr1 B sk j a).2 4 0 = e_n (K : Nat) := hK
              have hq1 : q + 1 ≤ 9 := by
                rw [h3, e_n_inj (by omega) (by omega) (by omega) (by omega)] at hK; omega
              exact ⟨w2, ⟨q + 1, hq1, by omega, h3⟩, fun i hi2 => by rw [show (wr1 B sk j a).2 1 i = _ from h4 i, if_neg (by omega)]; exact hi i hi2⟩)
          exact this.2
        · exact ⟨hq, fun _ _ => rfl⟩
      have two : (∃ q : Nat, q ≤ 9 ∧ o ≤ q ∧ (wrS B (e_n (p : Nat)) S').2 4 0 = e_n (q : Nat) ∧ (∀ i, i < o → (wrS B (e_n (p : Nat)) S').2 1 i = S' 1 i) ∧ ∀ i, i < q → ¬ (wrS B (e_n (p : Nat)) S').2 1 i = e_n (p : Nat)) := by
        unfold wrS
        split
        · have := itr_two (f := wr1 B (e_n (p : Nat))) (g := wr1 B (e_n (p : Nat))) (fun (a _ : Int32 × e_T) => WS B a.2 ∧ (∃ q : Nat, q ≤ 9 ∧ o ≤ q ∧ a.2 4 0 = e_n (q : Nat) ∧ (∀ i, i < o → a.2 1 i = S' 1 i) ∧ ∀ i, i < q → ¬ a.2 1 i = e_n (p : Nat))) (bMa B) 0 (e_n 0, S') (e_n 0, S') ⟨ws', k', k9', hok', hk', fun _ _ => rfl, hno⟩ (fun j a b _ hj h => by
            obtain ⟨w, q, q9, hoq, hq4, hi, hn⟩ := h
            have w2 := (ws_wr1 (sk := e_n (p : Nat)) (n := a.1) wb w (show j < bMa B by omega)).1
            obtain ⟨K, hK9, hK⟩ := WS_4 w2
            rcases wr1_nm (sk := e_n (p : Nat)) (n := a.1) (m := j) wb4 hq4 q9 with ⟨-, h2⟩ | ⟨c, hc, -, h7, h3, h4, -⟩
            · have h2 : (wr1 B (e_n (p : Nat)) j a).2 = a.2 := h2
              rw [h2]; exact ⟨w, q, q9, hoq, hq4, hi, hn⟩
            · have h3 : (wr1 B (e_n (p : Nat)) j a).2 4 0 = e_n ((q + 1 : Nat) : Nat) := h3
              have hK : (wr1 B (e_n (p : Nat)) j a).2 4 0 = e_n (K : Nat) := hK
              have hq1 : q + 1 ≤ 9 := by
                rw [h3, e_n_inj (by omega) (by omega) (by omega) (by omega)] at hK; omega
              refine ⟨w2, q + 1, hq1, by omega, h3, fun i hi2 => by rw [show (wr1 B (e_n (p : Nat)) j a).2 1 i = _ from h4 i, if_neg (by omega)]; exact hi i hi2, fun i hi2 => ?_⟩
              rw [show (wr1 B (e_n (p : Nat)) j a).2 1 i = _ from h4 i]
              by_cases hik : i = q
              · rw [if_pos hik]; exact h7
              · rw [if_neg hik]; exact hn i (by omega))
          exact this.2
        · exact ⟨k', k9', hok', hk', fun _ _ => rfl, hno⟩
      obtain ⟨⟨q, q9, hoq, hq4⟩, hqi⟩ := one (e_n (-1)) (e_n 0) S ws ⟨k0, k9, hok, hk0⟩
      obtain ⟨q', q9', hoq', hq4', hqi', hqn'⟩ := two
      exact Or.inr ⟨o, q, q', q9, q9', hoq, hoq', hq4, hq4', by rw [hqi o (Nat.le_refl _)]; exact ho, fun i hi => by rw [hqi i (by omega), hqi' i hi]; exact hnm i hi, hqn'⟩
end S92
