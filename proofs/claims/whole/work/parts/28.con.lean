section EZ
def e_ws (y : Nat) : List Cond := e_cw y :: e_U
/-- a method's room: d calls deep, from σ to σf -/
def e_rm (d : Nat) (σ σf : e_S) : Room := { frames := d + 40, cells := e_c σf - e_c σ, slots := e_s σf - e_s σ, locals := 60 * d + 400 }
def e_sd (ad : Nat → Nat) : Nat → Nat := fun k => ad (1000000 + k)
def e_Pre (G : e_G) (ad : Nat → Nat) (σ : e_S) (vs : List Value) (sz : Nat) : Array Value → State → Prop := va_Pc vs (fun U => U.heap.size = sz ∧ va_P G.1 vwCl (e_w G ad σ) U.heap ∧ e_KS G U ∧ va_D (fun _ => True) (e_w G ad σ) ∧ e_SS (e_sd ad) (e_xl σ) (e_xs σ) (va_A (e_w G ad σ) sz) U U.heap)
def e_VO (N : Nat) (ad : Nat → Nat) : Option Value → Option Value → Prop
  | none, none => True
  | some v, some w => e_VR N ad v w
  | _, _ => False
def e_Af (G : e_G) (ad : Nat → Nat) (σ : e_S) (sz : Nat) (σf : e_S) (adf : Nat → Nat) (t : State) : Prop := (∀ a, e_ok σ.1 a → adf a = ad a) ∧ va_P G.1 vwCl (e_w G adf σf) t.heap ∧ va_D (va_A (e_w G ad σ) sz) (e_w G adf σf) ∧ e_WF σf
def e_Qr (G : e_G) (ad : Nat → Nat) (σ : e_S) (sz : Nat) (v : Option Value) (σf : e_S) : Array Value → State → Outcome → State → Prop := fun _ st oc t => (∃ (adf : Nat → Nat) (w : Option Value), oc = .returned w ∧ e_VO σf.1 adf v w ∧ e_Af G ad σ sz σf adf t) ∧ va_F (va_A (e_w G ad σ) sz) st t
def e_Xc (G : e_G) (ad : Nat → Nat) (σ : e_S) (sz : Nat) (e : Nat) (σf : e_S) : String → State → State → Prop := fun E st t => E = e_xn e ∧ (∃ adf : Nat → Nat, e_Af G ad σ sz σf adf t) ∧ va_F (va_A (e_w G ad σ) sz) st t
def e_no : Array Value → State → Outcome → State → Prop := fun _ _ _ _ => False
/-- what a method of the picture says of the machine's -/
def e_Ct (l : Launch) (d y : Nat) (σ : e_S) (r : e_O × e_S) (G : e_G) (ad : Nat → Nat) (vs : List Value) (sz : Nat) : Prop := match r.1 with
  | .inl v => Met l (e_yn y) (e_ws y) (e_rm d σ r.2) (e_Pre G ad σ vs sz) (e_Qr G ad σ sz v r.2) (e_c r.2 - e_c σ) (e_s r.2 - e_s σ) (va_A (e_w G ad σ) sz)
  | .inr x => e_hh y = [] ∧ vx_Met l (e_yn y) (e_ws y) (e_rm d σ r.2) (e_Pre G ad σ vs sz) e_no (e_Xc G ad σ sz x r.2) (e_c r.2 - e_c σ) (e_s r.2 - e_s σ) (va_A (e_w G ad σ) sz)
def e_Con (l : Launch) (d : Nat) : Prop := ∀ (y : Nat) (as : List Value) (σ : e_S) (r : e_O × e_S), y < 338 → (∀ k, k ∈ e_not → y ≠ k) → as.length ≤ e_mL y → (∀ v ∈ as, v.category = 1) → e_E d y as σ = some r → e_WF σ → ∀ (G : e_G) (ad : Nat → Nat) (vs : List Value) (sz : Nat), e_SR σ.1 ad as vs → e_Ct l d y σ r G ad vs sz
theorem e_U_good {w : Cond} (hw : w ∈ e_U) : w ∈ e_U ∧ ((w.onTables && w.keeps) = true ∨ ∃ ty, w = .arrayClass ty) := ⟨hw, good_of_word (List.mem_filter.mp hw).2⟩
theorem e_good {ws : List Cond} (h : ∀ w ∈ ws, w ∈ e_U) : GoodIn e_U ws := fun w hw => e_U_good (h w hw)
theorem e_ws_U {y : Nat} (h : y < 338) (hn : ∀ k, k ∈ e_not → y ≠ k) : ∀ w ∈ e_ws y, w ∈ e_U := fun w hw => by
  rcases List.mem_cons.mp hw with rfl | q
  · exact e_cw_U y h hn
  · exact q
theorem e_cw_nil {y : Nat} (h : e_hh y = []) : e_cw y = .code (e_yn y) (e_cb y) (e_mL y) (e_rt y) := by unfold e_cw; rw [h]; rfl
theorem e_cw_cons {y : Nat} (h : e_hh y ≠ []) : e_cw y = .codeWith (e_yn y) (e_cb y) (e_mL y) (e_rt y) (e_hh y) := by
  unfold e_cw
  cases hh : e_hh y with
  | nil => exact absurd hh h
  | cons a b => rfl
section Calls
variable {p : Program} {l : Launch} {e : Env} {R : Room} {s : State} {m : MethodId} {args : Array Value} {below : List Frame} {meth : Method} {c : Code} {H : Heap} {locs : List Loc} {cells slots : Nat} {Q : State → Prop}
variable {mi pc : Nat} {LS : Array Slot} {ad : Nat → Nat} {σ : e_S} {G : e_G} {A : Nat → Prop} {ST RT : List Value}
theorem e_A_in (X : e_At G ad σ A s H locs) : ∀ q, va_A (e_w G ad σ) H.size q → A q := by
  obtain ⟨hK, hP, hD, hS, hw, hA⟩ := X
  intro q hq
  rcases hq with ⟨k, x, h⟩ | h
  · exact hD.2 k (q, x) h
  · exact hA q (Nat.le_trans hS.1 h)
/-- behind a call that returned -/
theorem e_callW {mc ms : Nat} {a : Array Value} {v : Option Value} {σ1 : e_S} (hr : va_Run p l e R s m args below meth c H locs cells slots mc ms (F0 m pc LS ST) RT (e_Qr G ad σ H.size v σ1 a) (va_A (e_w G ad σ) H.size)) (X : e_At G ad σ A s H locs)
    (kk : ∀ (adf : Nat → Nat) (w : Option Value) (H1 : Heap) (locs1 : List Loc), e_VO σ1.1 adf v w → (∀ a, e_ok σ.1 a → adf a = ad a) → e_At G adf σ1 A s H1 locs1 → W p l e R s m args below meth c H1 locs1 (cells + mc) (slots + ms) Q (F0 m (pc + 3) LS (w.toList ++ RT))) : W p l e R s m args below meth c H locs cells slots Q (F0 m pc LS ST) := by
  have hin := e_A_in X
  obtain ⟨hK, hP, hD, hS, hw, hA⟩ := X
  intro T hT X
  obtain ⟨v', st₀, t, T', L, h0, X', hL, e1, e2, ⟨⟨adf, w, hv, hvo, g1, g2, g3, g4⟩, hz, hk⟩, st⟩ := hr T hT X
  cases hv
  rw [h0] at hz hk
  rw [← e1] at g2
  obtain ⟨t2, a1, b1⟩ := kk adf _ T'.heap (locs ++ L) hvo g1 ⟨hK, g2, g3.weaken (fun _ q _ h => hin q.1 h),
    ⟨Nat.le_trans hS.1 (by rw [e1]; exact hz), fun q h1 h2 => by rw [e1, hk q (Nat.lt_of_lt_of_le h1 hS.1) (fun z => h2 (hin q z))]; exact hS.2.1 q h1 h2, fun q hq => by
      rcases List.mem_append.mp hq with h | h
      · exact hS.2.2 q h
      · exact hin _ (hL q h)⟩, g4, hA⟩ T' rfl X'
  exact ⟨t2, st t2 a1, b1⟩
/-- behind a call that threw -/
theorem e_callX {mc ms : Nat} {a : Array Value} {x : Nat} {σ1 : e_S} (hr : vx_Run p l e R s m args below meth c H locs cells slots mc ms (F0 m pc LS ST) RT (e_no a) (e_Xc G ad σ H.size x σ1) (va_A (e_w G ad σ) H.size)) (X : e_At G ad σ A s H locs)
    (kk : ∀ (adf : Nat → Nat) (q : Addr) (ce : Cell) (H1 : Heap) (locs1 : List Loc), (∀ a, e_ok σ.1 a → adf a = ad a) → e_At G adf σ1 A s H1 locs1 → H1[q]? = some ce → ce.vm = .none → s.vm.findClass (e_xn x) = some ce.cls → vx_W p l e R s m args below meth c H1 locs1 (cells + mc) (slots + ms) Q (F0 m pc LS RT) q) : W p l e R s m args below meth c H locs cells slots Q (F0 m pc LS ST) := by
  have hin := e_A_in X
  obtain ⟨hK, hP, hD, hS, hw, hA⟩ := X
  intro T hT X
  rcases hr T hT X with ⟨v, st₀, t, T', L, h0, X', hL, e1, e2, hq, st⟩ | ⟨q, st₀, t, T', L, E, ce, h0, X', hL, e1, e2, ⟨hE, ⟨adf, g1, g2, g3, g4⟩, hz, hk⟩, hce, hcv, hcl, st⟩
  · exact hq.elim
  · subst hE
    rw [h0] at hz hk
    rw [← e1] at g2
    obtain ⟨t2, a1, b1⟩ := kk adf q ce T'.heap (locs ++ L) g1 ⟨hK, g2, g3.weaken (fun _ q _ h => hin q.1 h),
      ⟨Nat.le_trans hS.1 (by rw [e1]; exact hz), fun q h1 h2 => by rw [e1, hk q (Nat.lt_of_lt_of_le h1 hS.1) (fun z => h2 (hin q z))]; exact hS.2.1 q h1 h2, fun q hq => by
        rcases List.mem_append.mp hq with h | h
        · exact hS.2.2 q h
        · exact hin _ (hL q h)⟩, g4, hA⟩ (by rw [e1]; exact hce) hcv hcl T' rfl X'
    exact ⟨t2, st.trans a1, b1⟩
theorem e_blind {vs : List Value} {sz : Nat} : FrameBlind (e_Pre G ad σ vs sz) := fun a U g mk q => by
  obtain ⟨q0, q1, qP, qK, qD, qS⟩ := q
  exact ⟨q0, q1, qP, e_KS.warm (s := U) (U := U.calling g mk a) (State.WarmedH.refl U) qK, qD, e_SS.moved (u := U) (U := U.calling g mk a) (Vm.Alike.refl U.vm) qS⟩
/-- what a callee's start needs -/
theorem e_start {sd : Nat → Nat} {xl : Nat} {xs : Nat → Int32} (X : e_At G ad σ A s H locs) (KS : e_KS G s) (SS : e_SS sd xl xs A s s.heap) (hsd : e_sd ad = sd) (hxl : e_xl σ = xl) (hxs : e_xs σ = xs) (vs : List Value) : ∀ U : State, U.heap = H → s.WarmedH U.vm → e_Pre G ad σ vs H.size vs.toArray U := by
  have hin := e_A_in X
  obtain ⟨hK, hP, hD, hS, hw, hA⟩ := X
  intro U hU hW
  subst hsd hxl hxs
  refine ⟨rfl, by rw [hU], by rw [hU]; exact hP, e_KS.warm hW KS, hD.weaken (fun _ _ _ _ => trivial), ?_⟩
  rw [hU]
  exact ((SS.kept hS.2.1).narrow hin).moved hW.alike
end Calls
end EZ
