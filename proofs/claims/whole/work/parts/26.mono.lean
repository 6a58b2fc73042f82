section EMo
/-- what only grows, what stays -/
def e_le (σ σ' : e_S) : Prop := σ.1 ≤ σ'.1 ∧ e_c σ ≤ e_c σ' ∧ e_s σ ≤ e_s σ' ∧ e_xl σ' = e_xl σ ∧ e_xs σ' = e_xs σ
theorem e_le_rf (σ : e_S) : e_le σ σ := ⟨Nat.le_refl _, Nat.le_refl _, Nat.le_refl _, rfl, rfl⟩
theorem e_le_tr {a b c : e_S} (h : e_le a b) (h2 : e_le b c) : e_le a c := ⟨Nat.le_trans h.1 h2.1, Nat.le_trans h.2.1 h2.2.1, Nat.le_trans h.2.2.1 h2.2.2.1, h2.2.2.2.1.trans h.2.2.2.1, h2.2.2.2.2.trans h.2.2.2.2⟩
theorem e_le_new (σ : e_S) (kd len n : Nat) : e_le σ (e_new σ kd len n) := ⟨Nat.le_succ _, Nat.le_succ _, Nat.le_add_right _ _, rfl, rfl⟩
theorem e_le_exc (σ : e_S) : e_le σ (e_exc σ) := ⟨Nat.le_refl _, Nat.le_succ _, Nat.le_add_right _ _, rfl, rfl⟩
def e_Onm (σ : e_S) (F : e_K → e_X) : Prop := (∃ x : e_X, (∀ K, F K = x) ∧ ∀ r, x = some r → e_le σ r.2) ∨ ∃ pc ls st σ', e_le σ σ' ∧ ∀ K : e_K, F K = K pc ls st σ'
theorem e_onm_n (σ : e_S) : e_Onm σ (fun _ => none) := Or.inl ⟨none, fun _ => rfl, fun _ h => by cases h⟩
theorem e_onm_s {σ : e_S} {r : e_O × e_S} (h : e_le σ r.2) : e_Onm σ (fun _ => some r) := Or.inl ⟨some r, fun _ => rfl, fun _ q => by cases q; exact h⟩
theorem e_onm_k {σ : e_S} {pc : Nat} {ls st : List Value} {σ' : e_S} (h : e_le σ σ') : e_Onm σ (fun K => K pc ls st σ') := Or.inr ⟨pc, ls, st, σ', h, fun _ => rfl⟩
theorem e_onm_if {σ : e_S} {c : Prop} [Decidable c] {A B : e_K → e_X} (a : e_Onm σ A) (b : e_Onm σ B) : e_Onm σ (fun K => if c then A K else B K) := by
  by_cases h : c
  · simpa [h] using a
  · simpa [h] using b
theorem e_onm_H {σ σ' : e_S} (m pc : Nat) (ls : List Value) (e : Nat) (h : e_le σ σ') : e_Onm σ (fun K => e_H K m pc ls e σ') := by
  unfold e_H
  cases (Nat.beq (e_own m) 11 || Nat.beq (e_own m) 13) with
  | false => exact e_onm_n _
  | true =>
  simp only [cond_true]
  cases e_hf ((e_look e_hds m).getD []) pc e with
  | none => exact e_onm_s h
  | some v => exact e_onm_k h
/-- a callee keeps to it -/
def e_Em (E : Nat → List Value → e_S → e_X) : Prop := ∀ y as σ r, E y as σ = some r → e_le σ r.2
theorem e_onm_res {σ : e_S} {o : e_X} (ho : ∀ r, o = some r → e_le σ r.2) (rk q : Nat) (ls rest : List Value) {HK : e_K → Nat → e_S → e_X} (hH : ∀ e σ', e_le σ σ' → e_Onm σ (fun K => HK K e σ')) : e_Onm σ (fun K => e_res rk o (fun st σ => K q ls st σ) rest (HK K)) := by
  unfold e_res
  split
  · unfold e_rV
    split
    · exact e_onm_k (ho _ rfl)
    · exact hH _ _ (ho _ rfl)
    · exact e_onm_n _
  · unfold e_rJ
    split
    · exact e_onm_k (ho _ rfl)
    · exact hH _ _ (ho _ rfl)
    · exact e_onm_n _
  · unfold e_rF
    split
    · exact e_onm_k (ho _ rfl)
    · exact hH _ _ (ho _ rfl)
    · exact e_onm_n _
  · unfold e_rI
    split
    · exact e_onm_k (ho _ rfl)
    · exact hH _ _ (ho _ rfl)
    · exact e_onm_n _
theorem e_onm_inv {E : Nat → List Value → e_S → e_X} (hE : e_Em E) (y rc np rk : Nat) (st : List Value) (σ : e_S) (q : Nat) (ls : List Value) {HK : e_K → Nat → e_S → e_X} (hH : ∀ e σ', e_le σ σ' → e_Onm σ (fun K => HK K e σ')) : e_Onm σ (fun K => e_inv E y rc np rk st σ (fun st σ => K q ls st σ) (HK K)) := by
  unfold e_inv
  split
  · exact e_onm_n _
  · split
    · exact e_onm_res (fun r h => hE _ _ _ _ h) _ _ _ _ hH
    · split
      · unfold e_ck
        exact e_onm_if (e_onm_res (fun r h => hE _ _ _ _ h) _ _ _ _ hH) (e_onm_n _)
      · exact e_onm_n _
theorem e_onm_call {E : Nat → List Value → e_S → e_X} (hE : e_Em E) (m pc len : Nat) (ls st : List Value) (σ : e_S) (idx : Nat) {HK : e_K → Nat → e_S → e_X} (hH : ∀ e σ', e_le σ σ' → e_Onm σ (fun K => HK K e σ')) : e_Onm σ (fun K => e_call E m K pc len ls st σ idx (HK K)) := by
  unfold e_call
  split
  · exact e_onm_n _
  · rename_i y rc np rk _
    cases hy : Nat.beq y 9000 with
    | true =>
      simp only [cond_true]
      unfold e_g9
      refine e_onm_if ?_ (e_onm_n _)
      split
      · exact e_onm_if (e_onm_n _) (e_onm_k (e_le_rf _))
      · exact e_onm_n _
    | false =>
      simp only [cond_false]
      cases h2 : Nat.beq y 9002 with
      | true =>
        simp only [cond_true]
        unfold e_g9
        refine e_onm_if ?_ (e_onm_n _)
        split
        · exact e_onm_k (e_le_rf _)
        · exact e_onm_n _
      | false =>
      simp only [cond_false]
      cases h3 : Nat.beq y 9003 with
      | true =>
        simp only [cond_true]
        unfold e_g9
        refine e_onm_if ?_ (e_onm_n _)
        split
        · exact e_onm_k (e_le_rf _)
        · exact e_onm_n _
      | false =>
      simp only [cond_false]
      cases h4 : Nat.beq y 9004 with
      | true =>
        simp only [cond_true]
        unfold e_g9
        refine e_onm_if ?_ (e_onm_n _)
        split
        · unfold e_ord; exact e_onm_if (e_onm_k (e_le_rf _)) (e_onm_n _)
        · exact e_onm_n _
      | false =>
      simp only [cond_false]
      cases hz : Nat.beq y 9001 with
      | true =>
        simp only [cond_true]
        unfold e_g9
        refine e_onm_if ?_ (e_onm_n _)
        split
        · unfold e_cp
          exact e_onm_if (e_onm_k (e_le_rf _)) (e_onm_n _)
        · exact e_onm_n _
      | false =>
        simp only [cond_false]
        exact e_onm_inv hE _ _ _ _ _ _ _ _ hH
theorem e_onm_get (σ : e_S) (c k ty : Nat) (st ls : List Value) (q : Nat) : e_Onm σ (fun K => e_get σ c k ty st (fun st => K q ls st σ)) := by
  unfold e_get
  split
  · split
    · unfold e_gJ; exact e_onm_if (e_onm_k (e_le_rf _)) (e_onm_n _)
    · unfold e_gF; exact e_onm_if (e_onm_k (e_le_rf _)) (e_onm_n _)
    · unfold e_gsF; exact e_onm_if (e_onm_k (e_le_rf _)) (e_onm_if (e_onm_k (e_le_rf _)) (e_onm_n _))
    · unfold e_gsI; exact e_onm_if (e_onm_k (e_le_rf _)) (e_onm_if (e_onm_k (e_le_rf _)) (e_onm_if (e_onm_k (e_le_rf _)) (e_onm_n _)))
    · unfold e_gI; exact e_onm_if (e_onm_k (e_le_rf _)) (e_onm_n _)
  · exact e_onm_n _
theorem e_onm_put (σ : e_S) (c k ty : Nat) (st ls : List Value) (q : Nat) : e_Onm σ (fun K => e_put σ c k ty st (fun st σ => K q ls st σ)) := by
  unfold e_put
  split
  · unfold e_pJ; exact e_onm_if (e_onm_k (e_le_rf _)) (e_onm_n _)
  · unfold e_pF; exact e_onm_if (e_onm_k (e_le_rf _)) (e_onm_n _)
  · unfold e_pZ; exact e_onm_if (e_onm_k (e_le_rf _)) (e_onm_n _)
  · unfold e_pI; exact e_onm_if (e_onm_k (e_le_rf _)) (e_onm_n _)
  · exact e_onm_n _
theorem e_onm_end (rk : Nat) (i : Instr) (st : List Value) (σ : e_S) : e_Onm σ (fun _ => e_end rk i st σ) := by
  refine Or.inl ⟨_, fun _ => rfl, fun r h => ?_⟩
  unfold e_end at h
  split at h <;> first | (cases h; exact e_le_rf _) | (cases h; done) | (split at h <;> first | (cases h; exact e_le_rf _) | cases h)
set_option maxHeartbeats 4000000 in
theorem e_onm_mem {E : Nat → List Value → e_S → e_X} (hE : e_Em E) (m pc len tgt : Nat) (ls st : List Value) (σ : e_S) (i : Instr) : e_Onm σ (fun K => e_mem E m K pc len tgt ls st σ i) := by
  cases i
  case invokevirtual idx => exact e_onm_call hE m pc len ls st σ idx (HK := fun K => e_H K m pc ls) (fun e σ' h => e_onm_H _ _ _ _ h)
  case invokestatic idx => exact e_onm_call hE m pc len ls st σ idx (HK := fun K => e_H K m pc ls) (fun e σ' h => e_onm_H _ _ _ _ h)
  case invokespecial idx => exact e_onm_call hE m pc len ls st σ idx (HK := fun _ _ _ => none) (fun e σ' h => e_onm_n _)
  all_goals first
    | exact e_onm_n _
    | exact e_onm_end _ _ _ _
    | exact e_onm_k (e_le_rf _)
    | (simp only [e_mem]; split <;> first | exact e_onm_get _ _ _ _ _ _ _ | exact e_onm_put _ _ _ _ _ _ _ | exact e_onm_k (e_le_rf _) | exact e_onm_n _)
    | (simp only [e_mem]; split <;> first
        | exact e_onm_n _
        | (unfold e_div; exact e_onm_if (e_onm_n _) (e_onm_k (e_le_rf _)))
        | (unfold e_rem; exact e_onm_if (e_onm_n _) (e_onm_k (e_le_rf _)))
        | (unfold e_ja; exact e_onm_if (e_onm_if (e_onm_n _) (e_onm_k (e_le_rf _))) (e_onm_n _))
        | (unfold e_is; exact e_onm_if (e_onm_if (e_onm_n _) (e_onm_k (e_le_rf _))) (e_onm_n _))
        | (unfold e_zs; exact e_onm_if (e_onm_if (e_onm_n _) (e_onm_k (e_le_rf _))) (e_onm_n _))
        | (unfold e_js; exact e_onm_if (e_onm_if (e_onm_n _) (e_onm_k (e_le_rf _))) (e_onm_n _))
        | (unfold e_qs; exact e_onm_if (e_onm_if (e_onm_n _) (e_onm_k (e_le_rf _))) (e_onm_n _))
        | (unfold e_na; exact e_onm_if (e_onm_n _) (e_onm_k (e_le_new _ _ _ _)))
        | (unfold e_za; exact e_onm_if (e_onm_if (e_onm_n _) (e_onm_k (e_le_rf _))) (e_onm_if (e_onm_if (e_onm_n _) (e_onm_k (e_le_rf _))) (e_onm_n _)))
        | (unfold e_qa; exact e_onm_if (e_onm_if (e_onm_n _) (e_onm_k (e_le_rf _))) (e_onm_if (e_onm_if (e_onm_n _) (e_onm_k (e_le_rf _))) (e_onm_n _)))
        | (unfold e_ac; exact e_onm_if (e_onm_if (e_onm_k (e_le_rf _)) (e_onm_k (e_le_rf _))) (e_onm_n _))
        | (unfold e_al; refine e_onm_if (e_onm_k (e_le_rf _)) ?_
           rename_i a r
           cases h : e_sl σ a with
           | none => exact e_onm_n _
           | some n => exact e_onm_k (e_le_rf _))
        | (unfold e_ia; refine e_onm_if (e_onm_if (e_onm_n _) (e_onm_k (e_le_rf _))) ?_
           rename_i i a r
           cases h : e_sa σ a with
           | none => exact e_onm_n _
           | some n => exact e_onm_if (e_onm_n _) (e_onm_k (e_le_rf _))))
    | (simp only [e_mem]; split
       · unfold e_g9; exact e_onm_if (e_onm_s (e_le_exc _)) (e_onm_n _)
       · split
         · unfold e_nw; exact e_onm_if (e_onm_n _) (e_onm_k (e_le_new _ _ _ _))
         · exact e_onm_n _)
theorem e_onm_stp {E : Nat → List Value → e_S → e_X} (hE : e_Em E) (m pc : Nat) (ls st : List Value) (σ : e_S) : e_Onm σ (fun K => e_stp E m K pc ls st σ) := by
  unfold e_stp
  split
  · exact e_onm_n _
  · split
    · exact e_onm_k (e_le_rf _)
    · split
      · exact e_onm_k (e_le_rf _)
      · split
        · exact e_onm_if (e_onm_k (e_le_rf _)) (e_onm_k (e_le_rf _))
        · exact e_onm_mem hE _ _ _ _ _ _ _ _
theorem e_le_run {E : Nat → List Value → e_S → e_X} (hE : e_Em E) (m : Nat) : ∀ (n pc : Nat) (ls st : List Value) (σ : e_S) (r : e_O × e_S), e_run E m n pc ls st σ = some r → e_le σ r.2 := by
  intro n
  induction n with
  | zero => intro pc ls st σ r h; cases h
  | succ n ih =>
    intro pc ls st σ r h
    have h1 : e_stp E m (e_run E m n) pc ls st σ = some r := h
    rcases e_onm_stp hE m pc ls st σ with ⟨x, hx, hr⟩ | ⟨pc', ls', st', σ', hl, hx⟩
    · replace hx : ∀ K, e_stp E m K pc ls st σ = x := hx
      rw [hx] at h1
      exact hr _ h1
    · replace hx : ∀ K : e_K, e_stp E m K pc ls st σ = K pc' ls' st' σ' := hx
      rw [hx] at h1
      exact e_le_tr hl (ih _ _ _ _ _ h1)
theorem e_Em_E : ∀ d, e_Em (e_E d)
  | 0 => fun _ _ _ _ h => by cases h
  | d + 1 => fun y as σ r h => by
    obtain ⟨n, hn⟩ := e_lim_some (e_gd_some h).1
    exact e_le_run (e_Em_E d) _ _ _ _ _ _ _ hn
end EMo
