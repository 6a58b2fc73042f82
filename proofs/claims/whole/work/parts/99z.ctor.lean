/-! the picture follows the machine over lists -/
section S99z
def Sk (X : Nat × (Nat → Int32)) (K : c_K) (K' : e_K) : Prop := ∀ pc ls st c σ, Rs X c σ → Sm X (K pc ls st c) (K' pc ls st σ)
def Se (X : Nat × (Nat → Int32)) (E : Nat → List Value → e_C → e_Y) (E' : Nat → List Value → e_S → e_X) : Prop := ∀ y as c σ, Rs X c σ → Sm X (E y as c) (E' y as σ)
theorem sm_n {X : Nat × (Nat → Int32)} {x' : e_X} : Sm X none x' := fun r h => by cases h
theorem sm_res {X : Nat × (Nat → Int32)} {o : e_Y} {o' : e_X} (ho : Sm X o o') {K : List Value → e_C → e_Y} {K' : List Value → e_S → e_X} (hK : ∀ st c σ, Rs X c σ → Sm X (K st c) (K' st σ)) (r : List Value) (H : Nat → e_S → e_X) :
    Sm X (c_ret o K r) (e_res 0 o' K' r H) := by
  cases o with
  | none => exact sm_n
  | some q =>
    obtain ⟨v, c'⟩ := q
    cases v with
    | inr e => exact sm_n
    | inl v =>
      cases v with
      | some v => exact sm_n
      | none =>
        obtain ⟨σ', h1, h2⟩ := ho _ rfl
        have : e_res 0 o' K' r H = K' r σ' := by rw [h1]; rfl
        rw [this]
        exact hK r c' σ' h2
theorem sm_inv {X : Nat × (Nat → Int32)} {E : Nat → List Value → e_C → e_Y} {E' : Nat → List Value → e_S → e_X} (hE : Se X E E') (y rc np rk : Nat) (st : List Value) {c : e_C} {σ : e_S} (h : Rs X c σ) {K : List Value → e_C → e_Y} {K' : List Value → e_S → e_X} (hK : ∀ st c σ, Rs X c σ → Sm X (K st c) (K' st σ)) (H : Nat → e_S → e_X) :
    Sm X (c_inv E y rc np rk st c K) (e_inv E' y rc np rk st σ K' H) := by
  unfold c_inv e_inv
  cases e_args st np with
  | none => exact sm_n
  | some q =>
    obtain ⟨as, rest⟩ := q
    cases rk with
    | succ rk => exact sm_n
    | zero =>
      cases rc with
      | zero => exact sm_res (o := E y as c) (o' := E' y as σ) (hE _ _ _ _ h) hK rest H
      | succ rc =>
        cases rest with
        | nil => exact sm_n
        | cons v r =>
          cases v
          case ref o =>
            show Sm X (if rc + 1 = 41 ∨ rc + 1 = 42 then none else if cK c o = rc + 1 then c_ret (E y (.ref o :: as) c) K r else none) (e_ck σ (rc + 1) o (e_res 0 (E' y (.ref o :: as) σ) K' r H))
            by_cases h1 : rc + 1 = 41 ∨ rc + 1 = 42
            · rw [if_pos h1]; exact sm_n
            · rw [if_neg h1]
              by_cases h2 : cK c o = rc + 1
              · rw [if_pos h2]
                have hok : e_okr σ (rc + 1) o = true := by
                  unfold e_okr
                  split
                  · rename_i hq; exact absurd (Or.inl hq) h1
                  · rename_i hq; exact absurd (Or.inr hq) h1
                  · rw [rs_k h]; exact decide_eq_true h2
                unfold e_ck
                rw [if_pos hok]
                exact sm_res (o := E y (.ref o :: as) c) (o' := E' y (.ref o :: as) σ) (hE _ _ _ _ h) hK r H
              · rw [if_neg h2]; exact sm_n
          all_goals exact sm_n
theorem sm_g9 {X : Nat × (Nat → Int32)} {st : List Value} {x : e_Y} {x' : e_X} (h : Sm X x x') : Sm X (e_g9 st x) (e_g9 st x') := by
  unfold e_g9
  split
  · exact h
  · exact sm_n
theorem rs_cp {X : Nat × (Nat → Int32)} {c : e_C} {σ : e_S} (h : Rs X c σ) {a b n : Nat} (hall : (List.range n).all (fun j => decide (cI c a j = cI c b j)) = true) : Rs X c (e_uR σ b (va_cpy (e_I σ a) (e_I σ b) 0 0 n)) := by
  obtain ⟨h1, h2, h3, h4, h5, h6, h7, h8⟩ := h
  refine ⟨h1, h2, ?_, h4, h5, h6, h7, h8⟩
  intro x k
  show (if x = b then va_cpy (e_I σ a) (e_I σ b) 0 0 n else σ.2.2.1 x) k = _
  by_cases hx : x = b
  · rw [if_pos hx, hx]
    unfold va_cpy
    split
    · rename_i hk
      have hj := List.all_eq_true.mp hall k (List.mem_range.mpr (by omega))
      rw [Nat.sub_zero, Nat.zero_add, ← of_decide_eq_true hj]
      exact h3 a k
    · exact h3 b k
  · rw [if_neg hx]; exact h3 x k
theorem sm_call {X : Nat × (Nat → Int32)} {E : Nat → List Value → e_C → e_Y} {E' : Nat → List Value → e_S → e_X} (hE : Se X E E') (m : Nat) {K : c_K} {K' : e_K} (hK : Sk X K K') (pc len : Nat) (ls st : List Value) {c : e_C} {σ : e_S} (h : Rs X c σ) (idx : Nat) (H : Nat → e_S → e_X) :
    Sm X (c_call E m K pc len ls st c idx) (e_call E' m K' pc len ls st σ idx H) := by
  unfold c_call e_call
  cases e_look (e_mr (e_own m)) idx with
  | none => exact sm_n
  | some q =>
    obtain ⟨y, rc, np, rk⟩ := q
    dsimp only
    cases h0 : Nat.beq y 9000 with
    | true =>
      simp only [cond_true]
      refine sm_g9 ?_
      split
      · rename_i a r
        by_cases ha : a = 0
        · show Sm X (if a = 0 then none else K (pc + len) ls r c) _
          rw [if_pos ha]; exact sm_n
        · show Sm X (if a = 0 then none else K (pc + len) ls r c) (if a = 0 then none else K' (pc + len) ls r σ)
          rw [if_neg ha, if_neg ha]; exact hK _ _ _ _ _ h
      · exact sm_n
    | false =>
      simp only [cond_false]
      cases h2 : Nat.beq y 9002 with
      | true => simp only [cond_true]; exact sm_n
      | false =>
        simp only [cond_false]
        cases h3 : Nat.beq y 9003 with
        | true =>
          simp only [cond_true]
          refine sm_g9 ?_
          split
          · exact hK _ _ _ _ _ h
          · exact sm_n
        | false =>
          simp only [cond_false]
          cases h4 : Nat.beq y 9004 with
          | true => simp only [cond_true]; exact sm_n
          | false =>
            simp only [cond_false]
            cases h1 : Nat.beq y 9001 with
            | true =>
              simp only [cond_true]
              refine sm_g9 ?_
              split
              · rename_i n dp b sp a r
                split
                · rename_i hc
                  obtain ⟨c1, c2, c3, c4, c5, c6, c7, c8⟩ := hc
                  subst c3
                  subst c4
                  unfold e_cp
                  dsimp only
                  have hl : ∀ x, e_l σ x = (cS c x).2 := fun x => by unfold e_l; rw [h.2.1]
                  rw [if_pos (by
                    rw [rs_k h, rs_k h, hl, hl]
                    exact ⟨c1, c2, by decide, by decide, c5, by rw [show (0 : Int32).toNatClampNeg = 0 from rfl, Nat.zero_add]; exact c6, by rw [show (0 : Int32).toNatClampNeg = 0 from rfl, Nat.zero_add]; exact c7⟩)]
                  exact hK _ _ _ _ _ (rs_cp h c8)
                · exact sm_n
              · exact sm_n
            | false =>
              simp only [cond_false]
              exact sm_inv (K := fun st c => K (pc + len) ls st c) (K' := fun st σ => K' (pc + len) ls st σ) hE y rc np rk st h (fun st c σ hr => hK _ _ _ _ _ hr) H
theorem sm_mem {X : Nat × (Nat → Int32)} {E : Nat → List Value → e_C → e_Y} {E' : Nat → List Value → e_S → e_X} (hE : Se X E E') (m : Nat) {K : c_K} {K' : e_K} (hK : Sk X K K') (pc len tgt : Nat) (ls st : List Value) {c : e_C} {σ : e_S} (h : Rs X c σ) (i : Instr) :
    Sm X (c_mem E m K pc len tgt ls st c i) (e_mem E' m K' pc len tgt ls st σ i) := by
  have hl : ∀ x, e_l σ x = (cS c x).2 := fun x => by unfold e_l; rw [h.2.1]
  have hN : σ.1 = c.1 := h.1
  have na : ∀ (kd : Nat) (n : Int32) (r : List Value), Sm X (if n < 0 ∨ 100000 < n.toNatClampNeg ∨ 900000 < c.1 then none else K (pc + len) ls (.ref (c.1 + 1) :: r) (cN c kd n.toNatClampNeg n.toNatClampNeg)) (e_na σ kd n (fun a σ => K' (pc + len) ls (.ref a :: r) σ)) := by
    intro kd n r
    unfold e_na
    rw [hN]
    split
    · exact sm_n
    · exact hK _ _ _ _ _ (rs_N h _ _ _)
  cases i
  case goto => exact hK _ _ _ _ _ h
  case getfield idx =>
    unfold c_mem e_mem
    dsimp only
    cases e_look (e_fr (e_own m)) idx with
    | none => exact sm_n
    | some q =>
      obtain ⟨q, k, ty⟩ := q
      dsimp only
      split
      · rename_i a r
        split
        · rename_i hc
          show Sm X _ (e_gF σ q k a (fun x => K' (pc + len) ls (.ref x :: r) σ))
          unfold e_gF
          rw [if_pos (by rw [rs_k h]; exact hc)]
          have : e_F σ a k = cF c a k := h.2.2.2.2.1 a k
          rw [this]
          exact hK _ _ _ _ _ h
        · exact sm_n
      · rename_i a r
        split
        · rename_i hc
          show Sm X _ (e_gI σ q k a (fun x => K' (pc + len) ls (.int x :: r) σ))
          unfold e_gI
          rw [if_pos (by rw [rs_k h]; exact hc)]
          have : e_I σ a k = cI c a k := h.2.2.1 a k
          rw [this]
          exact hK _ _ _ _ _ h
        · exact sm_n
      · exact sm_n
  case putfield idx =>
    unfold c_mem e_mem
    dsimp only
    cases e_look (e_fr (e_own m)) idx with
    | none => exact sm_n
    | some q =>
      obtain ⟨q, k, ty⟩ := q
      dsimp only
      split
      · rename_i v a r
        split
        · rename_i hc
          show Sm X _ (e_pF σ q k a v (fun σ => K' (pc + len) ls r σ))
          unfold e_pF
          rw [if_pos (by rw [rs_k h]; exact hc.1)]
          exact hK _ _ _ _ _ (rs_F h (by rw [hc.1]; exact hc.2) _ _)
        · exact sm_n
      · rename_i v a r
        split
        · rename_i hc
          show Sm X _ (e_pZ σ q k a v (fun σ => K' (pc + len) ls r σ))
          unfold e_pZ
          rw [if_pos (by rw [rs_k h]; exact hc.1)]
          exact hK _ _ _ _ _ (rs_I h (by rw [hc.1.1]; exact hc.2) _ _)
        · exact sm_n
      · rename_i v a r
        split
        · rename_i hc
          show Sm X _ (e_pI σ q k a v (fun σ => K' (pc + len) ls r σ))
          unfold e_pI
          rw [if_pos (by rw [rs_k h]; exact hc.1)]
          exact hK _ _ _ _ _ (rs_I h (by rw [hc.1]; exact hc.2) _ _)
        · exact sm_n
      · exact sm_n
  case arraylength =>
    unfold c_mem e_mem
    dsimp only
    split
    · rename_i a r
      split
      · rename_i hc
        unfold e_al
        dsimp only
        rw [if_pos (by rw [rs_k h]; exact hc), hl]
        exact hK _ _ _ _ _ h
      · exact sm_n
    · exact sm_n
  case iastore =>
    unfold c_mem e_mem
    dsimp only
    split
    · rename_i v i a r
      split
      · rename_i hc
        unfold e_is
        dsimp only
        have hk : e_k σ a = 20 := by rw [rs_k h]; exact hc
        rw [if_pos hk, hl]
        by_cases hb : i < 0 ∨ (cS c a).2 ≤ i.toNatClampNeg
        · rw [if_pos hb]; exact sm_n
        · rw [if_neg hb, if_neg hb]; exact hK _ _ _ _ _ (rs_I h (by rw [hc]; decide) _ _)
      · exact sm_n
    · exact sm_n
  case aastore =>
    unfold c_mem e_mem
    dsimp only
    split
    · rename_i v i a r
      split
      · rename_i hc
        unfold e_qs
        dsimp only
        have hk : e_k σ a = 23 ∧ e_k σ v = 6 := by rw [rs_k h, rs_k h]; exact hc
        rw [if_pos hk, hl]
        by_cases hb : i < 0 ∨ (cS c a).2 ≤ i.toNatClampNeg
        · rw [if_pos hb]; exact sm_n
        · rw [if_neg hb, if_neg hb]; exact hK _ _ _ _ _ (rs_F h (by rw [hc.1]; decide) _ _)
      · exact sm_n
    · exact sm_n
  case newarray t =>
    unfold c_mem e_mem
    dsimp only
    split
    · exact na _ _ _
    · exact na _ _ _
    · exact na _ _ _
    · exact sm_n
  case anewarray q =>
    unfold c_mem e_mem
    dsimp only
    split
    · exact na _ _ _
    · exact sm_n
  case new idx =>
    unfold c_mem e_mem
    dsimp only
    cases e_look (e_tht (e_own m)) idx with
    | some q => exact sm_n
    | none =>
      dsimp only
      cases e_look (e_nwt (e_own m)) idx with
      | none => exact sm_n
      | some q =>
        obtain ⟨q, n⟩ := q
        dsimp only
        unfold e_nw
        rw [hN]
        split
        · exact sm_n
        · exact hK _ _ _ _ _ (rs_N h _ _ _)
  case invokevirtual idx => exact sm_call hE _ hK _ _ _ _ h _ _
  case invokespecial idx => exact sm_call hE _ hK _ _ _ _ h _ _
  case invokestatic idx => exact sm_call hE _ hK _ _ _ _ h _ _
  case return_ =>
    unfold c_mem e_mem
    dsimp only
    split
    · rename_i hk
      intro r hr
      cases hr
      refine ⟨σ, ?_, h⟩
      rw [hk]; rfl
    · exact sm_n
  all_goals exact sm_n
theorem sm_stp {X : Nat × (Nat → Int32)} {E : Nat → List Value → e_C → e_Y} {E' : Nat → List Value → e_S → e_X} (hE : Se X E E') (m : Nat) {K : c_K} {K' : e_K} (hK : Sk X K K') : Sk X (c_stp E m K) (e_stp E' m K') := by
  intro pc ls st c σ h
  unfold c_stp e_stp
  cases e_fetch m pc with
  | none => exact sm_n
  | some q =>
    obtain ⟨i, len, tgt⟩ := q
    dsimp only
    cases e_pure i st with
    | some st' => exact hK _ _ _ _ _ h
    | none =>
      dsimp only
      cases e_loc i ls st with
      | some q => exact hK _ _ _ _ _ h
      | none =>
        dsimp only
        cases e_br i st with
        | some q =>
          obtain ⟨b, st'⟩ := q
          dsimp only
          by_cases hb : b = true
          · rw [if_pos hb, if_pos hb]; exact hK _ _ _ _ _ h
          · rw [if_neg hb, if_neg hb]; exact hK _ _ _ _ _ h
        | none => exact sm_mem hE _ hK _ _ _ _ _ h _
theorem sm_run {X : Nat × (Nat → Int32)} {E : Nat → List Value → e_C → e_Y} {E' : Nat → List Value → e_S → e_X} (hE : Se X E E') (m : Nat) : ∀ n, Sk X (c_run E m n) (e_run E' m n)
  | 0 => fun _ _ _ _ _ _ => sm_n
  | n + 1 => sm_stp hE m (sm_run hE m n)
theorem sm_go {X : Nat × (Nat → Int32)} {E : Nat → List Value → e_C → e_Y} {E' : Nat → List Value → e_S → e_X} (hE : Se X E E') (m : Nat) {K : c_K} {K' : e_K} (hK : Sk X K K') : ∀ n, Sk X (c_go E m K n) (e_go E' m K' n)
  | 0 => hK
  | n + 1 => sm_stp hE m (sm_go hE m hK n)
theorem sm_E {X : Nat × (Nat → Int32)} (n : Nat) : ∀ d, Se X (c_E n d) (e_E d)
  | 0 => fun _ _ _ _ _ => sm_n
  | d + 1 => by
    intro y as c σ h r hr
    have hr' : (match c_run (c_E n d) y n 0 (e_ent as (e_mL y)) [] c with | some (.inl v, c') => some (.inl v, c') | _ => none) = some r := hr
    cases hc : c_run (c_E n d) y n 0 (e_ent as (e_mL y)) [] c with
    | none => rw [hc] at hr'; cases hr'
    | some q =>
      obtain ⟨v, c'⟩ := q
      rw [hc] at hr'
      cases v with
      | inr e => cases hr'
      | inl v =>
        cases hr'
        obtain ⟨σ', h1, h2⟩ := sm_run (sm_E n d) y n 0 (e_ent as (e_mL y)) [] c σ h _ hc
        refine ⟨σ', ?_, h2⟩
        rw [e_E_L]
        exact e_gd_of (e_L_iff.mpr ⟨n, h1⟩) (fun x hx => by cases hx)
end S99z
