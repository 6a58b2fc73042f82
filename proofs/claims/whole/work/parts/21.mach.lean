section EM
abbrev e_K : Type := Nat → List Value → List Value → e_S → e_X
/-- a throw of what was called: into this method's own handler, or on -/
def e_H (K : e_K) (m pc : Nat) (ls : List Value) : Nat → e_S → e_X := fun e σ => bif (Nat.beq (e_own m) 11 || Nat.beq (e_own m) 13) then (match e_hf ((e_look e_hds m).getD []) pc e with
  | some h => K h ls [.null] σ
  | none => some (.inr e, σ)) else none
def e_max (x y : Int32) : Int32 := if x < y then y else x
def e_min (x y : Int32) : Int32 := if y < x then y else x
def e_ord {α : Type} (a : Nat) (K : Int32 → Option α) : Option α := if 1000100 ≤ a ∧ a < 1000117 then K (Int32.ofNat (a - 1000100)) else none
def e_g9 {α : Type} (st : List Value) (x : Option α) : Option α := if (st.map fun v => v.category).sum ≤ 9 then x else none
def e_call (E : Nat → List Value → e_S → e_X) (m : Nat) (K : e_K) (pc len : Nat) (ls st : List Value) (σ : e_S) (idx : Nat) (H : Nat → e_S → e_X) : e_X :=
  match e_look (e_mr (e_own m)) idx with
  | none => none
  | some (y, rc, np, rk) => bif Nat.beq y 9000 then e_g9 st (match st with | .ref a :: r => (if a = 0 then none else K (pc + len) ls r σ) | _ => none)
    else bif Nat.beq y 9002 then e_g9 st (match st with | .int b :: .int a :: r => K (pc + len) ls (.int (e_max a b) :: r) σ | _ => none)
    else bif Nat.beq y 9003 then e_g9 st (match st with | .int b :: .int a :: r => K (pc + len) ls (.int (e_min a b) :: r) σ | _ => none)
    else bif Nat.beq y 9004 then e_g9 st (match st with | .ref a :: r => e_ord a (fun v => K (pc + len) ls (.int v :: r) σ) | _ => none)
    else bif Nat.beq y 9001 then e_g9 st (match st with | .int n :: .int dp :: .ref b :: .int sp :: .ref a :: r => e_cp σ a sp b dp n (fun σ => K (pc + len) ls r σ) | _ => none)
    else e_inv E y rc np rk st σ (fun st σ => K (pc + len) ls st σ) H
def e_mem (E : Nat → List Value → e_S → e_X) (m : Nat) (K : e_K) (pc len tgt : Nat) (ls st : List Value) (σ : e_S) (i : Instr) : e_X := match i with
  | .goto _ => K tgt ls st σ
  | .getfield idx => match e_look (e_fr (e_own m)) idx with | some (c, k, ty) => e_get σ c k ty st (fun st => K (pc + len) ls st σ) | none => none
  | .putfield idx => match e_look (e_fr (e_own m)) idx with | some (c, k, ty) => e_put σ c k ty st (fun st σ => K (pc + len) ls st σ) | none => none
  | .arraylength => match st with | .ref a :: r => e_al σ a (fun v => K (pc + len) ls (.int v :: r) σ) | _ => none
  | .iaload => match st with | .int i :: .ref a :: r => e_ia σ a i (fun v => K (pc + len) ls (.int v :: r) σ) | _ => none
  | .baload => match st with | .int i :: .ref a :: r => e_za σ a i (fun v => K (pc + len) ls (.int v :: r) σ) | _ => none
  | .laload => match st with | .int i :: .ref a :: r => e_ja σ a i (fun v => K (pc + len) ls (.long v :: r) σ) | _ => none
  | .aaload => match st with | .int i :: .ref a :: r => e_qa σ a i (fun v => K (pc + len) ls (.ref v :: r) σ) | _ => none
  | .iastore => match st with | .int v :: .int i :: .ref a :: r => e_is σ a i v (fun σ => K (pc + len) ls r σ) | _ => none
  | .bastore => match st with | .int v :: .int i :: .ref a :: r => e_zs σ a i v (fun σ => K (pc + len) ls r σ) | _ => none
  | .lastore => match st with | .long v :: .int i :: .ref a :: r => e_js σ a i v (fun σ => K (pc + len) ls r σ) | _ => none
  | .aastore => match st with | .ref v :: .int i :: .ref a :: r => e_qs σ a i v (fun σ => K (pc + len) ls r σ) | _ => none
  | .newarray t => match t, st with
    | .int, .int n :: r => e_na σ 20 n (fun a σ => K (pc + len) ls (.ref a :: r) σ)
    | .boolean, .int n :: r => e_na σ 21 n (fun a σ => K (pc + len) ls (.ref a :: r) σ)
    | .long, .int n :: r => e_na σ 22 n (fun a σ => K (pc + len) ls (.ref a :: r) σ)
    | _, _ => none
  | .anewarray _ => match st with | .int n :: r => e_na σ 23 n (fun a σ => K (pc + len) ls (.ref a :: r) σ) | _ => none
  | .new idx => match e_look (e_tht (e_own m)) idx with
    | some e => e_g9 st (some (.inr e, e_exc σ))
    | none => match e_look (e_nwt (e_own m)) idx with
      | some (c, n) => e_nw σ c n (fun a σ => K (pc + len) ls (.ref a :: st) σ)
      | none => none
  | .invokevirtual idx => e_call E m K pc len ls st σ idx (e_H K m pc ls)
  | .invokespecial idx => e_call E m K pc len ls st σ idx (fun _ _ => none)
  | .invokestatic idx => e_call E m K pc len ls st σ idx (e_H K m pc ls)
  | .idiv => match st with | .int y :: .int x :: r => e_div x y (fun v => K (pc + len) ls (.int v :: r) σ) | _ => none
  | .irem => match st with | .int y :: .int x :: r => e_rem x y (fun v => K (pc + len) ls (.int v :: r) σ) | _ => none
  | .tableswitch _ _ _ _ => match e_look ((e_look e_sws m).getD []) pc, st with | some (ps, d), .int x :: r => K (e_sel ps d x) ls r σ | _, _ => none
  | .lookupswitch _ _ => match e_look ((e_look e_sws m).getD []) pc, st with | some (ps, d), .int x :: r => K (e_sel ps d x) ls r σ | _, _ => none
  | .ldc idx => match e_look (e_ldt (e_own m)) idx with | some v => K (pc + len) ls (v :: st) σ | none => none
  | .ldc_w idx => match e_look (e_ldt (e_own m)) idx with | some v => K (pc + len) ls (v :: st) σ | none => none
  | .ldc2_w idx => match e_look (e_ldt (e_own m)) idx with | some v => K (pc + len) ls (v :: st) σ | none => none
  | .getstatic idx => match e_look (e_gst (e_own m)) idx with | some v => K (pc + len) ls (v :: st) σ | none => none
  | .if_acmp c _ => match st with
    | .ref y :: .ref x :: r => e_ac x y (fun b => if (match c with | .eq => b | .ne => !b) = true then K tgt ls r σ else K (pc + len) ls r σ)
    | _ => none
  | .ireturn => e_end (e_rk m) i st σ
  | .lreturn => e_end (e_rk m) i st σ
  | .areturn => e_end (e_rk m) i st σ
  | .return_ => e_end (e_rk m) i st σ
  | _ => none
/-- one instruction -/
def e_stp (E : Nat → List Value → e_S → e_X) (m : Nat) (K : e_K) : e_K := fun pc ls st σ => match e_fetch m pc with
  | none => none
  | some (i, len, tgt) => match e_pure i st with
    | some st' => K (pc + len) ls st' σ
    | none => match e_loc i ls st with
      | some (ls', st') => K (pc + len) ls' st' σ
      | none => match e_br i st with
        | some (b, st') => if b = true then K tgt ls st' σ else K (pc + len) ls st' σ
        | none => e_mem E m K pc len tgt ls st σ i
def e_run (E : Nat → List Value → e_S → e_X) (m : Nat) : Nat → e_K
  | 0 => fun _ _ _ _ => none
  | n + 1 => e_stp E m (e_run E m n)
/-- n instructions, then K -/
def e_go (E : Nat → List Value → e_S → e_X) (m : Nat) (K : e_K) : Nat → e_K
  | 0 => K
  | n + 1 => e_stp E m (e_go E m K n)
/-- what it comes to, if it ends -/
noncomputable def e_lim (f : Nat → e_X) : e_X := by
  classical exact if h : ∃ n, (f n).isSome then f (Classical.choose h) else none
/-- the locals at a method's entry -/
def e_ent (as : List Value) (n : Nat) : List Value := as ++ List.replicate (n - as.length) .null
/-- a throw leaves methods of the class's own entry alone -/
def e_gd (y : Nat) (o : e_X) : e_X := match o with
  | some (.inr x, σ) => bif Nat.beq (e_own y) 11 then some (.inr x, σ) else none
  | o => o
/-- a method's answer, calls at most d deep -/
noncomputable def e_E : Nat → Nat → List Value → e_S → e_X
  | 0 => fun _ _ _ => none
  | d + 1 => fun y as σ => e_gd y (e_lim (fun n => e_run (e_E d) y n 0 (e_ent as (e_mL y)) [] σ))
/-- from a place in a method on -/
noncomputable def e_L (d m : Nat) : e_K := fun pc ls st σ => e_lim (fun n => e_run (e_E d) m n pc ls st σ)
/-- what goes on at one place, or nowhere -/
def e_One (F : e_K → e_X) : Prop := (∃ x, ∀ K, F K = x) ∨ ∃ pc ls st σ, ∀ K : e_K, F K = K pc ls st σ
theorem e_one_c (x : e_X) : e_One (fun _ => x) := Or.inl ⟨x, fun _ => rfl⟩
theorem e_one_k (pc : Nat) (ls st : List Value) (σ : e_S) : e_One (fun K => K pc ls st σ) := Or.inr ⟨pc, ls, st, σ, fun _ => rfl⟩
theorem e_one_if {c : Prop} [Decidable c] {A B : e_K → e_X} (a : e_One A) (b : e_One B) : e_One (fun K => if c then A K else B K) := by
  by_cases h : c
  · simpa [h] using a
  · simpa [h] using b
theorem e_one_H (m pc : Nat) (ls : List Value) (e : Nat) (σ : e_S) : e_One (fun K => e_H K m pc ls e σ) := by
  unfold e_H
  cases (Nat.beq (e_own m) 11 || Nat.beq (e_own m) 13) with
  | false => exact e_one_c _
  | true =>
  simp only [cond_true]
  cases h : e_hf ((e_look e_hds m).getD []) pc e with
  | none => exact e_one_c _
  | some v => exact e_one_k _ _ _ _
theorem e_one_rI {o : e_X} {A : Int32 → e_S → e_K → e_X} {B : Nat → e_S → e_K → e_X} (a : ∀ v σ, e_One (A v σ)) (b : ∀ e σ, e_One (B e σ)) : e_One (fun K => e_rI o (fun v σ => A v σ K) (fun e σ => B e σ K)) := by
  unfold e_rI
  split
  · exact a _ _
  · exact b _ _
  · exact e_one_c _
theorem e_one_rJ {o : e_X} {A : Int64 → e_S → e_K → e_X} {B : Nat → e_S → e_K → e_X} (a : ∀ v σ, e_One (A v σ)) (b : ∀ e σ, e_One (B e σ)) : e_One (fun K => e_rJ o (fun v σ => A v σ K) (fun e σ => B e σ K)) := by
  unfold e_rJ
  split
  · exact a _ _
  · exact b _ _
  · exact e_one_c _
theorem e_one_rF {o : e_X} {A : Nat → e_S → e_K → e_X} {B : Nat → e_S → e_K → e_X} (a : ∀ v σ, e_One (A v σ)) (b : ∀ e σ, e_One (B e σ)) : e_One (fun K => e_rF o (fun v σ => A v σ K) (fun e σ => B e σ K)) := by
  unfold e_rF
  split
  · exact a _ _
  · exact b _ _
  · exact e_one_c _
theorem e_one_rV {o : e_X} {A : e_S → e_K → e_X} {B : Nat → e_S → e_K → e_X} (a : ∀ σ, e_One (A σ)) (b : ∀ e σ, e_One (B e σ)) : e_One (fun K => e_rV o (fun σ => A σ K) (fun e σ => B e σ K)) := by
  unfold e_rV
  split
  · exact a _
  · exact b _ _
  · exact e_one_c _
theorem e_one_inv (E : Nat → List Value → e_S → e_X) (y rc np rk : Nat) (st : List Value) (σ : e_S) (q : Nat) (ls : List Value) {HK : e_K → Nat → e_S → e_X} (hH : ∀ e σ, e_One (fun K => HK K e σ)) : e_One (fun K => e_inv E y rc np rk st σ (fun st σ => K q ls st σ) (HK K)) := by
  have R : ∀ (o : e_X) (rest : List Value), e_One (fun K => e_res rk o (fun st σ => K q ls st σ) rest (HK K)) := by
    intro o rest
    unfold e_res
    split
    · exact e_one_rV (A := fun σ K => K q ls rest σ) (B := fun e σ K => HK K e σ) (fun _ => e_one_k _ _ _ _) (fun e σ => hH e σ)
    · exact e_one_rJ (A := fun v σ K => K q ls (.long v :: rest) σ) (B := fun e σ K => HK K e σ) (fun _ _ => e_one_k _ _ _ _) (fun e σ => hH e σ)
    · exact e_one_rF (A := fun v σ K => K q ls (.ref v :: rest) σ) (B := fun e σ K => HK K e σ) (fun _ _ => e_one_k _ _ _ _) (fun e σ => hH e σ)
    · exact e_one_rI (A := fun v σ K => K q ls (.int v :: rest) σ) (B := fun e σ K => HK K e σ) (fun _ _ => e_one_k _ _ _ _) (fun e σ => hH e σ)
  unfold e_inv
  split
  · exact e_one_c _
  · split
    · exact R _ _
    · split
      · unfold e_ck
        exact e_one_if (R _ _) (e_one_c none)
      · exact e_one_c _
theorem e_one_call (E : Nat → List Value → e_S → e_X) (m pc len : Nat) (ls st : List Value) (σ : e_S) (idx : Nat) {HK : e_K → Nat → e_S → e_X} (hH : ∀ e σ, e_One (fun K => HK K e σ)) : e_One (fun K => e_call E m K pc len ls st σ idx (HK K)) := by
  unfold e_call
  split
  · exact e_one_c _
  · rename_i y rc np rk _
    cases hy : Nat.beq y 9000 with
    | true =>
      simp only [cond_true]
      unfold e_g9
      refine e_one_if ?_ (e_one_c none)
      split
      · exact e_one_if (e_one_c none) (e_one_k _ _ _ _)
      · exact e_one_c _
    | false =>
      simp only [cond_false]
      cases h2 : Nat.beq y 9002 with
      | true =>
        simp only [cond_true]
        unfold e_g9
        refine e_one_if ?_ (e_one_c none)
        split
        · exact e_one_k _ _ _ _
        · exact e_one_c _
      | false =>
      simp only [cond_false]
      cases h3 : Nat.beq y 9003 with
      | true =>
        simp only [cond_true]
        unfold e_g9
        refine e_one_if ?_ (e_one_c none)
        split
        · exact e_one_k _ _ _ _
        · exact e_one_c _
      | false =>
      simp only [cond_false]
      cases h4 : Nat.beq y 9004 with
      | true =>
        simp only [cond_true]
        unfold e_g9
        refine e_one_if ?_ (e_one_c none)
        split
        · unfold e_ord; exact e_one_if (e_one_k _ _ _ _) (e_one_c none)
        · exact e_one_c _
      | false =>
      simp only [cond_false]
      cases hz : Nat.beq y 9001 with
      | true =>
        simp only [cond_true]
        unfold e_g9
        refine e_one_if ?_ (e_one_c none)
        split
        · unfold e_cp
          exact e_one_if (e_one_k _ _ _ _) (e_one_c none)
        · exact e_one_c _
      | false =>
        simp only [cond_false]
        exact e_one_inv _ _ _ _ _ _ _ _ _ hH
theorem e_one_get (σ : e_S) (c k ty : Nat) (st ls : List Value) (q : Nat) : e_One (fun K => e_get σ c k ty st (fun st => K q ls st σ)) := by
  unfold e_get
  split
  · split
    · unfold e_gJ; exact e_one_if (e_one_k _ _ _ _) (e_one_c none)
    · unfold e_gF; exact e_one_if (e_one_k _ _ _ _) (e_one_c none)
    · unfold e_gsF; exact e_one_if (e_one_k _ _ _ _) (e_one_if (e_one_k _ _ _ _) (e_one_c none))
    · unfold e_gsI; exact e_one_if (e_one_k _ _ _ _) (e_one_if (e_one_k _ _ _ _) (e_one_if (e_one_k _ _ _ _) (e_one_c none)))
    · unfold e_gI; exact e_one_if (e_one_k _ _ _ _) (e_one_c none)
  · exact e_one_c _
theorem e_one_put (σ : e_S) (c k ty : Nat) (st ls : List Value) (q : Nat) : e_One (fun K => e_put σ c k ty st (fun st σ => K q ls st σ)) := by
  unfold e_put
  split
  · unfold e_pJ; exact e_one_if (e_one_k _ _ _ _) (e_one_c none)
  · unfold e_pF; exact e_one_if (e_one_k _ _ _ _) (e_one_c none)
  · unfold e_pZ; exact e_one_if (e_one_k _ _ _ _) (e_one_c none)
  · unfold e_pI; exact e_one_if (e_one_k _ _ _ _) (e_one_c none)
  · exact e_one_c _
set_option maxHeartbeats 4000000 in
theorem e_one_mem (E : Nat → List Value → e_S → e_X) (m pc len tgt : Nat) (ls st : List Value) (σ : e_S) (i : Instr) : e_One (fun K => e_mem E m K pc len tgt ls st σ i) := by
  cases i
  case invokevirtual idx => exact e_one_call E m pc len ls st σ idx (HK := fun K => e_H K m pc ls) (fun e σ => e_one_H _ _ _ _ _)
  case invokestatic idx => exact e_one_call E m pc len ls st σ idx (HK := fun K => e_H K m pc ls) (fun e σ => e_one_H _ _ _ _ _)
  case invokespecial idx => exact e_one_call E m pc len ls st σ idx (HK := fun _ _ _ => none) (fun e σ => e_one_c _)
  all_goals first
    | exact e_one_c _
    | exact e_one_k _ _ _ _
    | (simp only [e_mem]; split <;> first | exact e_one_get _ _ _ _ _ _ _ | exact e_one_put _ _ _ _ _ _ _ | exact e_one_k _ _ _ _ | exact e_one_c _)
    | (simp only [e_mem]; split <;> first
        | exact e_one_c _
        | (unfold e_div; exact e_one_if (e_one_c none) (e_one_k _ _ _ _))
        | (unfold e_rem; exact e_one_if (e_one_c none) (e_one_k _ _ _ _))
        | (unfold e_ja; exact e_one_if (e_one_if (e_one_c none) (e_one_k _ _ _ _)) (e_one_c none))
        | (unfold e_is; exact e_one_if (e_one_if (e_one_c none) (e_one_k _ _ _ _)) (e_one_c none))
        | (unfold e_zs; exact e_one_if (e_one_if (e_one_c none) (e_one_k _ _ _ _)) (e_one_c none))
        | (unfold e_js; exact e_one_if (e_one_if (e_one_c none) (e_one_k _ _ _ _)) (e_one_c none))
        | (unfold e_qs; exact e_one_if (e_one_if (e_one_c none) (e_one_k _ _ _ _)) (e_one_c none))
        | (unfold e_na; exact e_one_if (e_one_c none) (e_one_k _ _ _ _))
        | (unfold e_za; exact e_one_if (e_one_if (e_one_c none) (e_one_k _ _ _ _)) (e_one_if (e_one_if (e_one_c none) (e_one_k _ _ _ _)) (e_one_c none)))
        | (unfold e_qa; exact e_one_if (e_one_if (e_one_c none) (e_one_k _ _ _ _)) (e_one_if (e_one_if (e_one_c none) (e_one_k _ _ _ _)) (e_one_c none)))
        | (unfold e_ac; exact e_one_if (e_one_if (e_one_k _ _ _ _) (e_one_k _ _ _ _)) (e_one_c none))
        | (unfold e_al; refine e_one_if (e_one_k _ _ _ _) ?_
           rename_i a r
           cases h : e_sl σ a with
           | none => exact e_one_c _
           | some n => exact e_one_k _ _ _ _)
        | (unfold e_ia; refine e_one_if (e_one_if (e_one_c none) (e_one_k _ _ _ _)) ?_
           rename_i i a r
           cases h : e_sa σ a with
           | none => exact e_one_c _
           | some n => exact e_one_if (e_one_c none) (e_one_k _ _ _ _)))
    | (simp only [e_mem]; split
       · exact e_one_c _
       · split
         · unfold e_nw; exact e_one_if (e_one_c none) (e_one_k _ _ _ _)
         · exact e_one_c _)
theorem e_one_stp (E : Nat → List Value → e_S → e_X) (m pc : Nat) (ls st : List Value) (σ : e_S) : e_One (fun K => e_stp E m K pc ls st σ) := by
  unfold e_stp
  split
  · exact e_one_c _
  · split
    · exact e_one_k _ _ _ _
    · split
      · exact e_one_k _ _ _ _
      · split
        · exact e_one_if (e_one_k _ _ _ _) (e_one_k _ _ _ _)
        · exact e_one_mem _ _ _ _ _ _ _ _ _
theorem e_mono1 (E : Nat → List Value → e_S → e_X) (m : Nat) : ∀ (n pc : Nat) (ls st : List Value) (σ : e_S) (r : e_O × e_S), e_run E m n pc ls st σ = some r → e_run E m (n + 1) pc ls st σ = some r := by
  intro n
  induction n with
  | zero => intro pc ls st σ r h; cases h
  | succ n ih =>
    intro pc ls st σ r h
    rcases e_one_stp E m pc ls st σ with ⟨x, hx⟩ | ⟨pc', ls', st', σ', hx⟩
    · replace hx : ∀ K, e_stp E m K pc ls st σ = x := hx
      have h1 : e_stp E m (e_run E m n) pc ls st σ = some r := h
      rw [hx] at h1
      show e_stp E m (e_run E m (n + 1)) pc ls st σ = some r
      rw [hx]; exact h1
    · replace hx : ∀ K : e_K, e_stp E m K pc ls st σ = K pc' ls' st' σ' := hx
      have h1 : e_stp E m (e_run E m n) pc ls st σ = some r := h
      rw [hx] at h1
      show e_stp E m (e_run E m (n + 1)) pc ls st σ = some r
      rw [hx]; exact ih _ _ _ _ _ h1
theorem e_mono (E : Nat → List Value → e_S → e_X) (m : Nat) {n k pc : Nat} {ls st : List Value} {σ : e_S} {r : e_O × e_S} (hk : n ≤ k) (h : e_run E m n pc ls st σ = some r) : e_run E m k pc ls st σ = some r := by
  induction hk with
  | refl => exact h
  | step _ ih => exact e_mono1 _ _ _ _ _ _ _ _ ih
theorem e_lim_some {f : Nat → e_X} {r : e_O × e_S} (h : e_lim f = some r) : ∃ n, f n = some r := by
  unfold e_lim at h
  split at h
  · exact ⟨_, h⟩
  · cases h
theorem e_lim_of {f : Nat → e_X} (hm : ∀ n k r, n ≤ k → f n = some r → f k = some r) {n : Nat} {r : e_O × e_S} (h : f n = some r) : e_lim f = some r := by
  unfold e_lim
  have hx : ∃ n, (f n).isSome := ⟨n, by rw [h]; rfl⟩
  rw [dif_pos hx]
  obtain ⟨r', hr'⟩ := Option.isSome_iff_exists.mp (Classical.choose_spec hx)
  rw [hr']
  have h1 := hm _ (max n (Classical.choose hx)) _ (Nat.le_max_right _ _) hr'
  have h2 := hm _ (max n (Classical.choose hx)) _ (Nat.le_max_left _ _) h
  rw [h1] at h2
  exact h2
theorem e_L_iff {d m pc : Nat} {ls st : List Value} {σ : e_S} {r : e_O × e_S} : e_L d m pc ls st σ = some r ↔ ∃ n, e_run (e_E d) m n pc ls st σ = some r :=
  ⟨fun h => e_lim_some h, fun ⟨n, h⟩ => e_lim_of (f := fun n => e_run (e_E d) m n pc ls st σ) (fun _ _ _ hk h => e_mono _ _ hk h) h⟩
/-- the law of a step -/
theorem e_L_stp (d m pc : Nat) (ls st : List Value) (σ : e_S) : e_L d m pc ls st σ = e_stp (e_E d) m (e_L d m) pc ls st σ := by
  apply Option.ext
  intro r
  rw [e_L_iff]
  rcases e_one_stp (e_E d) m pc ls st σ with ⟨x, hx⟩ | ⟨pc', ls', st', σ', hx⟩
  · replace hx : ∀ K, e_stp (e_E d) m K pc ls st σ = x := hx
    rw [hx (e_L d m)]
    constructor
    · rintro ⟨n, h⟩
      cases n with
      | zero => cases h
      | succ n =>
        have h1 : e_stp (e_E d) m (e_run (e_E d) m n) pc ls st σ = some r := h
        rw [hx] at h1
        exact h1
    · intro h
      refine ⟨1, ?_⟩
      show e_stp (e_E d) m (e_run (e_E d) m 0) pc ls st σ = some r
      rw [hx]; exact h
  · replace hx : ∀ K : e_K, e_stp (e_E d) m K pc ls st σ = K pc' ls' st' σ' := hx
    rw [hx (e_L d m), e_L_iff]
    constructor
    · rintro ⟨n, h⟩
      cases n with
      | zero => cases h
      | succ n =>
        have h1 : e_stp (e_E d) m (e_run (e_E d) m n) pc ls st σ = some r := h
        rw [hx] at h1
        exact ⟨n, h1⟩
    · rintro ⟨n, h⟩
      refine ⟨n + 1, ?_⟩
      show e_stp (e_E d) m (e_run (e_E d) m n) pc ls st σ = some r
      rw [hx]; exact h
theorem e_L_go (d m : Nat) (n : Nat) : e_go (e_E d) m (e_L d m) n = e_L d m := by
  induction n with
  | zero => rfl
  | succ n ih =>
    show e_stp (e_E d) m (e_go (e_E d) m (e_L d m) n) = e_L d m
    rw [ih]
    funext pc ls st σ
    exact (e_L_stp d m pc ls st σ).symm
/-- n instructions at once -/
theorem e_L_n {d m pc : Nat} {ls st : List Value} {σ : e_S} {x : e_X} (n : Nat) (h : e_go (e_E d) m (e_L d m) n pc ls st σ = x) : e_L d m pc ls st σ = x := by
  rw [← h, e_L_go]
theorem e_E_L (d y : Nat) (as : List Value) (σ : e_S) : e_E (d + 1) y as σ = e_gd y (e_L d y 0 (e_ent as (e_mL y)) [] σ) := rfl
theorem e_gd_some {y : Nat} {o : e_X} {r : e_O × e_S} (h : e_gd y o = some r) : o = some r ∧ ∀ x, r.1 = .inr x → e_own y = 11 := by
  unfold e_gd at h
  split at h
  · cases hb : Nat.beq (e_own y) 11 with
    | false => rw [hb] at h; cases h
    | true => rw [hb] at h; cases h; exact ⟨rfl, fun _ _ => Nat.eq_of_beq_eq_true hb⟩
  · rename_i o' hn
    refine ⟨h, fun x hx => ?_⟩
    obtain ⟨r1, r2⟩ := r
    cases hx
    exact absurd h (hn x r2)
theorem e_E_ret {d y : Nat} {as : List Value} {σ σ' : e_S} {v : Option Value} (h : e_L d y 0 (e_ent as (e_mL y)) [] σ = some (.inl v, σ')) : e_E (d + 1) y as σ = some (.inl v, σ') := by
  rw [e_E_L, h]; rfl
theorem e_E_thr {d y x : Nat} {as : List Value} {σ σ' : e_S} (hy : e_own y = 11) (h : e_L d y 0 (e_ent as (e_mL y)) [] σ = some (.inr x, σ')) : e_E (d + 1) y as σ = some (.inr x, σ') := by
  rw [e_E_L, h]
  show (bif Nat.beq (e_own y) 11 then _ else none) = _
  rw [hy]; rfl
end EM
