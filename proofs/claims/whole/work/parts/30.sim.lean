section EX
/-- the picture at a place, seen from the method's start -/
def e_Iv (G : e_G) (ad0 : Nat → Nat) (σ0 : e_S) (A : Nat → Prop) (s : State) (ad : Nat → Nat) (σ : e_S) (H : Heap) (locs : List Loc) (cells slots : Nat) : Prop :=
  e_At G ad σ A s H locs ∧ (∀ a, e_ok σ0.1 a → ad a = ad0 a) ∧ e_le σ0 σ ∧ e_c σ = e_c σ0 + cells ∧ e_s σ = e_s σ0 + slots
/-- what stays through a method -/
def e_Cx (p : Program) (l : Launch) (R : Room) (s : State) (m : MethodId) (args : Array Value) (meth : Method) (c : Code) (mi d : Nat) (G : e_G) (ad0 : Nat → Nat) (σ0 : e_S) (A : Nat → Prop) (r : e_O × e_S) : Prop :=
  e_Fix p s m args meth c mi ∧ e_KS G s ∧ e_SS (e_sd ad0) (e_xl σ0) (e_xs σ0) A s s.heap ∧ e_Con l d ∧ (d + 41 ≤ R.frames ∧ 60 * (d + 1) + 400 ≤ R.locals) ∧ (e_c r.2 ≤ e_c σ0 + R.cells ∧ e_s r.2 ≤ e_s σ0 + R.slots) ∧ mi < 338 ∧ (mi = 325 ∨ c.exceptionTable.toList = tableOf (e_hh mi)) ∧ l.stackTraces = false
theorem e_args_inv {st as rest : List Value} {np : Nat} (h : e_args st np = some (as, rest)) : np ≤ st.length ∧ ((st.drop np).map fun v => v.category).sum ≤ 8 ∧ ((st.take np).map fun v => v.category).sum = np ∧ as = (st.take np).reverse ∧ rest = st.drop np := by
  unfold e_args at h
  cases hb : (Nat.ble np st.length && Nat.ble (((st.drop np).map fun v => v.category).sum) 8 && Nat.beq (((st.take np).map fun v => v.category).sum) np) with
  | false => rw [hb] at h; cases h
  | true =>
    rw [hb] at h
    simp only [Bool.and_eq_true] at hb
    cases h
    exact ⟨Nat.le_of_ble_eq_true hb.1.1, Nat.le_of_ble_eq_true hb.1.2, Nat.eq_of_beq_eq_true hb.2, rfl, rfl⟩
theorem e_cat1 : ∀ {l : List Value}, (l.map fun v => v.category).sum = l.length → ∀ v ∈ l, v.category = 1
  | [], _, v, h => by cases h
  | a :: l, hs, v, h => by
    have hge : ∀ l : List Value, l.length ≤ (l.map fun v => v.category).sum := by
      intro l
      induction l with
      | nil => simp
      | cons b l ih =>
        simp only [List.map_cons, List.sum_cons, List.length_cons]
        rcases lv_cat b with q | q <;> omega
    simp only [List.map_cons, List.sum_cons, List.length_cons] at hs
    have h1 := hge l
    have ha : a.category = 1 := by rcases lv_cat a with q | q <;> omega
    rcases List.mem_cons.mp h with rfl | h
    · exact ha
    · exact e_cat1 (by omega) v h
/-- a call's answer, on the stack -/
theorem e_res_ret {rk : Nat} {v : Option Value} {σ1 : e_S} {K : List Value → e_S → e_X} {rest : List Value} {HK : Nat → e_S → e_X} {r : e_O × e_S} (h : e_res rk (some (.inl v, σ1)) K rest HK = some r) : K (v.toList ++ rest) σ1 = some r := by
  unfold e_res at h
  split at h
  · unfold e_rV at h; split at h
    · rename_i q; cases q; exact h
    · rename_i q; cases q
    · cases h
  · unfold e_rJ at h; split at h
    · rename_i q; cases q; exact h
    · rename_i q; cases q
    · cases h
  · unfold e_rF at h; split at h
    · rename_i q; cases q; exact h
    · rename_i q; cases q
    · cases h
  · unfold e_rI at h; split at h
    · rename_i q; cases q; exact h
    · rename_i q; cases q
    · cases h
theorem e_res_thr {rk x : Nat} {σ1 : e_S} {K : List Value → e_S → e_X} {rest : List Value} {HK : Nat → e_S → e_X} {r : e_O × e_S} (h : e_res rk (some (.inr x, σ1)) K rest HK = some r) : HK x σ1 = some r := by
  unfold e_res at h
  split at h <;> exact h
theorem e_res_none {rk : Nat} {K : List Value → e_S → e_X} {rest : List Value} {HK : Nat → e_S → e_X} : e_res rk none K rest HK = none := by
  unfold e_res
  split <;> rfl
theorem e_VO_SR {N : Nat} {ad : Nat → Nat} {v w : Option Value} {rest RT : List Value} (h : e_VO N ad v w) (hr : e_SR N ad rest RT) : e_SR N ad (v.toList ++ rest) (w.toList ++ RT) := by
  cases v with
  | none => cases w with
    | none => exact hr
    | some w => exact h.elim
  | some v => cases w with
    | none => exact h.elim
    | some w => exact ⟨h, hr⟩
def e_xc (q : Nat × Nat × Nat × Nat) : Nat := if q.2.2.2 = 18 then 0 else 1
theorem e_hf_split {pc x h9 : Nat} : ∀ {L : List (Nat × Nat × Nat × Nat)}, e_hf (L.map fun q => (q.1, q.2.1, q.2.2.1, if q.2.2.2 = 18 then 0 else 1)) pc x = some h9 → ∃ P q S, L = P ++ q :: S ∧ (∀ z ∈ P, ¬ (z.1 ≤ pc ∧ pc < z.2.1) ∨ e_xc z ≠ x) ∧ q.1 ≤ pc ∧ pc < q.2.1 ∧ e_xc q = x ∧ q.2.2.1 = h9
  | [], h => by cases h
  | a :: L, h => by
    rw [List.map_cons] at h
    unfold e_hf at h
    cases hb : (Nat.ble a.1 pc && Nat.blt pc a.2.1 && Nat.beq (if a.2.2.2 = 18 then 0 else 1) x) with
    | true =>
      rw [hb] at h
      cases h
      simp only [Bool.and_eq_true] at hb
      exact ⟨[], a, L, rfl, fun z hz => (by cases hz), Nat.le_of_ble_eq_true hb.1.1, Nat.le_of_ble_eq_true hb.1.2, Nat.eq_of_beq_eq_true hb.2, rfl⟩
    | false =>
      rw [hb] at h
      obtain ⟨P, q, S, h1, h2, h3⟩ := e_hf_split h
      refine ⟨a :: P, q, S, by rw [h1]; rfl, fun z hz => ?_, h3⟩
      rcases List.mem_cons.mp hz with rfl | hz
      · by_cases hc : z.1 ≤ pc ∧ pc < z.2.1
        · refine Or.inr fun hx => ?_
          have e1 : Nat.ble z.1 pc = true := Nat.ble_eq_true_of_le hc.1
          have e2 : Nat.blt pc z.2.1 = true := Nat.ble_eq_true_of_le hc.2
          have e3 : Nat.beq (if z.2.2.2 = 18 then 0 else 1) x = true := by
            show Nat.beq (e_xc z) x = true
            rw [hx]; exact Nat.beq_refl x
          rw [e1, e2, e3] at hb
          cases hb
        · exact Or.inl hc
      · exact h2 z hz
section Sim
variable {p : Program} {l : Launch} {e : Env} {R : Room} {s : State} {m : MethodId} {args : Array Value} {below : List Frame} {meth : Method} {c : Code} {H : Heap} {locs : List Loc} {cells slots : Nat} {Q : State → Prop}
variable {mi d pc : Nat} {LS : Array Slot} {ad ad0 : Nat → Nat} {σ σ0 : e_S} {G : e_G} {A : Nat → Prop} {ls st ST : List Value} {r : e_O × e_S}
/-- what is shown of a place by n steps -/
def e_Gl (p : Program) (l : Launch) (e : Env) (R : Room) (s : State) (m : MethodId) (args : Array Value) (below : List Frame) (meth : Method) (c : Code) (Q : State → Prop) (mi d : Nat) (G : e_G) (ad0 : Nat → Nat) (σ0 : e_S) (A : Nat → Prop) (r : e_O × e_S) (n : Nat) : Prop :=
  ∀ (pc : Nat) (ls st : List Value) (σ : e_S) (ad : Nat → Nat) (LS : Array Slot) (ST : List Value) (H : Heap) (locs : List Loc) (cells slots : Nat), e_run (e_E d) mi n pc ls st σ = some r → e_LR σ.1 ad ls LS (e_mL mi) → e_SR σ.1 ad st ST → e_Iv G ad0 σ0 A s ad σ H locs cells slots → W p l e R s m args below meth c H locs cells slots Q (F0 m pc LS ST)
/-- a throw that leaves the method -/
def e_Th (p : Program) (l : Launch) (e : Env) (R : Room) (s : State) (m : MethodId) (args : Array Value) (below : List Frame) (meth : Method) (c : Code) (Q : State → Prop) (mi : Nat) (G : e_G) (ad0 : Nat → Nat) (σ0 : e_S) (A : Nat → Prop) (r : e_O × e_S) : Prop :=
  ∀ (x pc : Nat) (σ : e_S) (ad : Nat → Nat) (LS : Array Slot) (RT : List Value) (H : Heap) (locs : List Loc) (cells slots : Nat) (q : Addr) (ce : Cell), r = (.inr x, σ) → e_hf ((e_look e_hds mi).getD []) pc x = none → e_own mi = 11 ∨ e_own mi = 13 → e_Iv G ad0 σ0 A s ad σ H locs cells slots → H[q]? = some ce → ce.vm = .none → s.vm.findClass (e_xn x) = some ce.cls → vx_W p l e R s m args below meth c H locs cells slots Q (F0 m pc LS RT) q
/-- caught here -/
theorem e_catch (C : e_Cx p l R s m args meth c mi d G ad0 σ0 A r) {x h9 : Nat} {q : Addr} {ce : Cell} {RT : List Value} (hf : e_hf ((e_look e_hds mi).getD []) pc x = some h9) (hce : H[q]? = some ce) (hcv : ce.vm = .none) (hcl : s.vm.findClass (e_xn x) = some ce.cls)
    (kk : W p l e R s m args below meth c H locs cells slots Q (F0 m h9 LS [.ref q])) : vx_W p l e R s m args below meth c H locs cells slots Q (F0 m pc LS RT) q := by
  obtain ⟨F, KS, SS, hCon, hR, hRm, hmi, htb, hlt⟩ := id C
  obtain ⟨hx, hb, hml, hown, hts, hlk, hnm, hrt, ho⟩ := id F
  have hA := List.all_eq_true.mp e_hdA mi (List.mem_range.mpr hmi)
  unfold e_hdc at hA
  simp only [Bool.and_eq_true, decide_eq_true_eq] at hA
  obtain ⟨⟨g1, g2⟩, g3⟩ := hA
  rw [g1] at hf
  obtain ⟨P, q9, S, s1, s2, s3, s4, s5, s6⟩ := e_hf_split hf
  replace htb : c.exceptionTable.toList = tableOf (e_hh mi) := by
    rcases htb with h5 | h5
    · exfalso
      rw [h5, show e_hh 325 = [] from rfl] at s1
      cases P <;> cases s1
    · exact h5
  have h13 : e_own mi = 13 := by
    rw [s1] at g3
    simp only [Bool.or_eq_true] at g3
    rcases g3 with z | z
    · cases P <;> cases z
    · exact Nat.eq_of_beq_eq_true z
  rw [h13] at hown
  have hk : ∀ z ∈ e_hh mi, z.2.2.2 = 18 ∨ z.2.2.2 = 13 := fun z hz => by
    have := List.all_eq_true.mp g2 z hz
    simp only [Bool.or_eq_true] at this
    rcases this with w | w
    · exact Or.inl (Nat.eq_of_beq_eq_true w)
    · exact Or.inr (Nat.eq_of_beq_eq_true w)
  have l18 := hts _ e_w_x18
  have l13 := hts _ e_w_x13
  have hcov : ∀ z : Nat × Nat × Nat × Nat, ¬ (z.1 ≤ pc ∧ pc < z.2.1) → covers ⟨z.1, z.2.1, z.2.2.1, z.2.2.2⟩ pc = false := fun z hz => by
    unfold covers
    simp only [Bool.and_eq_false_iff, decide_eq_false_iff_not]
    by_cases h : z.1 ≤ pc
    · exact Or.inr fun h2 => hz ⟨h, h2⟩
    · exact Or.inl h
  have hq9 : q9 ∈ e_hh mi := by rw [s1]; exact List.mem_append_right _ List.mem_cons_self
  have hsplit : c.exceptionTable.toList = tableOf P ++ (⟨q9.1, q9.2.1, q9.2.2.1, q9.2.2.2⟩ : ExceptionTableEntry) :: tableOf S := by
    rw [htb, s1]
    unfold tableOf
    rw [List.map_append, List.map_cons]
  have hq : covers (⟨q9.1, q9.2.1, q9.2.2.1, q9.2.2.2⟩ : ExceptionTableEntry) pc = true := by
    unfold covers
    simp only [Bool.and_eq_true, decide_eq_true_eq]
    exact ⟨s3, s4⟩
  have hpass : ∀ z ∈ tableOf P, covers z pc = false ∨ (z.catchType ≠ 0 ∧ ∃ nm : String, (Cond.classLink (e_on 13) z.catchType nm).before args s = true ∧ va_Nc (e_xn x) nm s) := by
    intro z hz
    unfold tableOf at hz
    obtain ⟨w, hw, rfl⟩ := List.mem_map.mp hz
    have hwm : w ∈ e_hh mi := by rw [s1]; exact List.mem_append_left _ hw
    rcases s2 w hw with h | h
    · exact Or.inl (hcov w h)
    · right
      rcases hk w hwm with e1 | e1
      · have hx1 : x = 1 := by
          have : e_xc w = 0 := by unfold e_xc; rw [if_pos e1]
          rw [this] at h
          rw [← s5] at h ⊢
          unfold e_xc at h ⊢
          split at h
          · exact absurd rfl h
          · rw [if_neg ‹_›]
        subst hx1
        exact ⟨by show w.2.2.2 ≠ 0; omega, e_NSE, by show (Cond.classLink (e_on 13) w.2.2.2 e_NSE).before args s = true; rw [e1]; exact l18, KS.2.2.2.2.1⟩
      · have hx1 : x = 0 := by
          have : e_xc w = 1 := by unfold e_xc; rw [if_neg (by omega)]
          rw [this] at h
          rw [← s5] at h ⊢
          unfold e_xc at h ⊢
          split at h
          · rw [if_pos ‹_›]
          · exact absurd rfl h
        subst hx1
        exact ⟨by show w.2.2.2 ≠ 0; omega, e_IAE, by show (Cond.classLink (e_on 13) w.2.2.2 e_IAE).before args s = true; rw [e1]; exact l13, KS.2.2.2.1⟩
  rcases hk q9 hq9 with e1 | e1
  · have hx0 : x = 0 := by rw [← s5]; unfold e_xc; rw [if_pos e1]
    subst hx0
    refine vx_catch (name := e_NSE) hown (tableOf P) _ (tableOf S) hsplit hpass hq (by show q9.2.2.2 ≠ 0; omega) (by show (Cond.classLink (e_on 13) q9.2.2.2 e_NSE).before args s = true; rw [e1]; exact l18) (e_KS.nw KS e_w_cn args) hce hcv hcl ?_
    show W p l e R s m args below meth c H locs cells slots Q (F0 m q9.2.2.1 LS [.ref q])
    rw [s6]; exact kk
  · have hx0 : x = 1 := by rw [← s5]; unfold e_xc; rw [if_neg (by omega)]
    subst hx0
    refine vx_catch (name := e_IAE) hown (tableOf P) _ (tableOf S) hsplit hpass hq (by show q9.2.2.2 ≠ 0; omega) (by show (Cond.classLink (e_on 13) q9.2.2.2 e_IAE).before args s = true; rw [e1]; exact l13) (e_KS.nw KS e_w_ci args) hce hcv hcl ?_
    show W p l e R s m args below meth c H locs cells slots Q (F0 m q9.2.2.1 LS [.ref q])
    rw [s6]; exact kk
theorem e_LS_size {N : Nat} (h : e_LR N ad ls LS (e_mL mi)) : LS.size = e_mL mi := by
  obtain ⟨-, lv, h1, -⟩ := h
  exact h1.1
/-- what a call comes to, whatever its kind -/
theorem e_s_after {n rk : Nat} {o : e_X} {rest RT : List Value} {a9 : Array Value} (C : e_Cx p l R s m args meth c mi d G ad0 σ0 A r) (ih : e_Gl p l e R s m args below meth c Q mi d G ad0 σ0 A r n) (th : e_Th p l e R s m args below meth c Q mi G ad0 σ0 A r)
    (I : e_Iv G ad0 σ0 A s ad σ H locs cells slots) (hL : e_LR σ.1 ad ls LS (e_mL mi)) (hle : ∀ q, o = some q → e_le σ q.2) (hRT : e_SR σ.1 ad rest RT) {HK : Nat → e_S → e_X} (hHK : HK = e_H (e_run (e_E d) mi n) mi pc ls ∨ HK = fun _ _ => none)
    (h : e_res rk o (fun st σ => e_run (e_E d) mi n (pc + 3) ls st σ) rest HK = some r)
    (ret : ∀ v σ1, o = some (.inl v, σ1) → (cells + (e_c σ1 - e_c σ) ≤ R.cells ∧ slots + (e_s σ1 - e_s σ) ≤ R.slots) → va_Run p l e R s m args below meth c H locs cells slots (e_c σ1 - e_c σ) (e_s σ1 - e_s σ) (F0 m pc LS ST) RT (e_Qr G ad σ H.size v σ1 a9) (va_A (e_w G ad σ) H.size))
    (thr : ∀ x σ1, o = some (.inr x, σ1) → (e_own mi = 11 ∨ e_own mi = 13) → (cells + (e_c σ1 - e_c σ) ≤ R.cells ∧ slots + (e_s σ1 - e_s σ) ≤ R.slots) → HK ≠ (fun _ _ => none) → vx_Run p l e R s m args below meth c H locs cells slots (e_c σ1 - e_c σ) (e_s σ1 - e_s σ) (F0 m pc LS ST) RT (e_no a9) (e_Xc G ad σ H.size x σ1) (va_A (e_w G ad σ) H.size)) :
    W p l e R s m args below meth c H locs cells slots Q (F0 m pc LS ST) := by
  obtain ⟨F, KS, SS, hCon, hR, hRm, hmi, htb, hlt⟩ := id C
  obtain ⟨X, hag, hl0, hc, hs⟩ := I
  cases o with
  | none => rw [e_res_none] at h; cases h
  | some q =>
    obtain ⟨q1, σ1⟩ := q
    have hl1 : e_le σ σ1 := hle _ rfl
    cases q1 with
    | inl v =>
      have h1 := e_res_ret h
      have hl2 : e_le σ1 r.2 := e_le_run (e_Em_E d) _ _ _ _ _ _ _ h1
      have hf : cells + (e_c σ1 - e_c σ) ≤ R.cells ∧ slots + (e_s σ1 - e_s σ) ≤ R.slots := by
        have a1 := hl1.2.1; have a2 := hl1.2.2.1; have b1 := hl2.2.1; have b2 := hl2.2.2.1
        exact ⟨by omega, by omega⟩
      refine e_callW (ret v σ1 rfl hf) X (fun adf w H1 locs1 hvo hag1 hAt => ?_)
      refine ih (pc + 3) ls _ σ1 adf LS _ H1 locs1 _ _ h1 (e_LR_up hl1.1 hag1 hL) (e_VO_SR hvo (e_SR_up hl1.1 hag1 hRT)) ⟨hAt, fun a ha => (hag1 a (e_ok_up hl0.1 ha)).trans (hag a ha), e_le_tr hl0 hl1, ?_, ?_⟩
      · have a1 := hl1.2.1; omega
      · have a2 := hl1.2.2.1; omega
    | inr x =>
      have h1 := e_res_thr h
      rcases hHK with rfl | rfl
      · unfold e_H at h1
        cases hb : (Nat.beq (e_own mi) 11 || Nat.beq (e_own mi) 13) with
        | false => rw [hb] at h1; cases h1
        | true =>
          rw [hb] at h1
          simp only [cond_true] at h1
          have hown : e_own mi = 11 ∨ e_own mi = 13 := by
            rw [Bool.or_eq_true] at hb
            rcases hb with q | q
            · exact Or.inl (Nat.eq_of_beq_eq_true q)
            · exact Or.inr (Nat.eq_of_beq_eq_true q)
          have hne : e_H (e_run (e_E d) mi n) mi pc ls ≠ (fun _ _ => none) := by
            intro hq
            have := congrFun (congrFun hq x) σ1
            unfold e_H at this
            rw [hb] at this
            simp only [cond_true] at this
            rw [this] at h1
            cases h1
          cases hh : e_hf ((e_look e_hds mi).getD []) pc x with
          | none =>
            rw [hh] at h1
            cases h1
            have hf : cells + (e_c σ1 - e_c σ) ≤ R.cells ∧ slots + (e_s σ1 - e_s σ) ≤ R.slots := by
              have a1 := hl1.2.1; have a2 := hl1.2.2.1
              have b1 : e_c σ1 ≤ e_c σ0 + R.cells := hRm.1
              have b2 : e_s σ1 ≤ e_s σ0 + R.slots := hRm.2
              exact ⟨by omega, by omega⟩
            refine e_callX (thr x σ1 rfl hown hf hne) X (fun adf q ce H1 locs1 hag1 hAt hce hcv hcl => ?_)
            refine th x pc σ1 adf LS RT H1 locs1 _ _ q ce rfl hh hown ⟨hAt, fun a ha => (hag1 a (e_ok_up hl0.1 ha)).trans (hag a ha), e_le_tr hl0 hl1, ?_, ?_⟩ hce hcv hcl
            · have a1 := hl1.2.1; omega
            · have a2 := hl1.2.2.1; omega
          | some h9 =>
            rw [hh] at h1
            dsimp only at h1
            have hl2 : e_le σ1 r.2 := e_le_run (e_Em_E d) _ _ _ _ _ _ _ h1
            have hf : cells + (e_c σ1 - e_c σ) ≤ R.cells ∧ slots + (e_s σ1 - e_s σ) ≤ R.slots := by
              have a1 := hl1.2.1; have a2 := hl1.2.2.1; have b1 := hl2.2.1; have b2 := hl2.2.2.1
              exact ⟨by omega, by omega⟩
            refine e_callX (thr x σ1 rfl hown hf hne) X (fun adf q ce H1 locs1 hag1 hAt hce hcv hcl => ?_)
            refine e_catch C hh hce hcv hcl (ih h9 ls [.null] σ1 adf LS [.ref q] H1 locs1 _ _ h1 (e_LR_up hl1.1 hag1 hL) ⟨Or.inr ⟨q, rfl⟩, True.intro⟩ ⟨hAt, fun a ha => (hag1 a (e_ok_up hl0.1 ha)).trans (hag a ha), e_le_tr hl0 hl1, ?_, ?_⟩)
            · have a1 := hl1.2.1; omega
            · have a2 := hl1.2.2.1; omega
      · cases h1
end Sim
end EX
