section EC
theorem e_mp_some {m : Nat} (h : m < 338) (hn : ∀ k, k ∈ e_not → m ≠ k) : ∃ cp inst kp se ini, e_mp m = some (cp, inst, kp, se, ini) := by
  have hA : (List.range 338).all (fun m => e_not.contains m || (e_mp m).isSome) = true := by decide +kernel
  have h1 := List.all_eq_true.mp hA m (List.mem_range.mpr h)
  simp only [Bool.or_eq_true] at h1
  rcases h1 with h1 | h1
  · exact absurd rfl (hn m (List.contains_iff_mem.mp h1))
  · obtain ⟨⟨cp, inst, kp, se, ini⟩, hq⟩ := Option.isSome_iff_exists.mp h1
    exact ⟨cp, inst, kp, se, ini, hq⟩
def e_rkc (m : Nat) : Bool := match e_rk m, e_rt m with
  | 0, none => true
  | 1, some .int => true
  | 2, some .long => true
  | 3, some (.object _) => true
  | 3, some (.array _) => true
  | 4, some .boolean => true
  | 5, some .char => true
  | 6, some .byte => true
  | _, _ => false
theorem e_rkA : (List.range 338).all e_rkc = true := by decide +kernel
section MF
variable {l : Launch} {y : MethodName} {ws ws' : List Cond} {rm : Room} {Pc : Array Value → State → Prop} {Qc : Array Value → State → Outcome → State → Prop} {XC : String → State → State → Prop} {mc ms : Nat} {free : Addr → Prop} {cc : ByteArray} {maxL : Nat} {ret : Option FieldType} {hh : List (Nat × Nat × Nat × Nat)}
/-- what a body owes, whatever its table -/
def e_Bd (l : Launch) (y : MethodName) (ws : List Cond) (rm : Room) (Pc : Array Value → State → Prop) (Qc : Array Value → State → Outcome → State → Prop) (XC : String → State → State → Prop) (mc ms : Nat) (free : Addr → Prop) (cc : ByteArray) (maxL : Nat) (ret : Option FieldType) (hh : List (Nat × Nat × Nat × Nat)) : Prop :=
  ∀ (p : Program) (e : Env) (s : State) (m : MethodId) (args : Array Value) (below : List Frame) (meth : Method) (c : Code) (s₁ : State), BodyLoose p l y (headSpec ws rm) cc maxL ret e s m args below meth c s₁ → c.maxLocals = maxL → c.exceptionTable.toList = tableOf hh → Pc args s →
    W p l e (headSpec ws rm).room s m args below meth c s.heap [] 0 0 (vx_MQ below Qc XC args s mc ms free) (entryFrame m args maxL)
theorem e_Bd_0 (hy : plainFor y = true) (hw : ws = Cond.code y cc maxL ret :: ws') (body : e_Bd l y ws rm Pc Qc XC mc ms free cc maxL ret []) : vx_Met l y ws rm Pc Qc XC mc ms free := by
  refine MetFree.of_bodySF (code := cc) (maxLocals := maxL) (ret := ret) hy ?_ ?_
  · intro args s m h hn
    obtain ⟨meth, c, h1, h2, h3, h4, h5, h6, -, -⟩ := Cond.code_spec hn (atoms_spec (ws := ws) h _ (by rw [hw]; exact List.mem_cons_self))
    exact ⟨meth, c, h1, h2, h3, h4, h5, h6⟩
  · intro p e s m args below meth c s₁ B hml hP _
    have hh0 : s₁.heap = s.heap := by rw [B.state]; rfl
    have ht : c.exceptionTable.toList = tableOf [] := by
      obtain ⟨meth9, c9, h1, h2, -, -, -, -, h7, -⟩ := Cond.code_spec B.named (atoms_spec (ws := ws) B.pre _ (by rw [hw]; exact List.mem_cons_self))
      cases Option.some.inj (h1.symm.trans B.method)
      cases Option.some.inj (h2.symm.trans (Stand.of_body B).code)
      rw [Array.isEmpty_iff.mp h7]
      rfl
    obtain ⟨t, a1, o, b1, b2, b3⟩ := body p e s m args below meth c s₁ B hml ht hP s₁ hh0 (Stand.of_body B)
    exact ⟨t, o, a1, b1, b2, b3⟩
theorem e_Bd_h (hy : plainFor y = true) (hw : ws = Cond.codeWith y cc maxL ret hh :: ws') (body : e_Bd l y ws rm Pc Qc XC mc ms free cc maxL ret hh) : vx_Met l y ws rm Pc Qc XC mc ms free := by
  refine MetFree.of_bodySF (code := cc) (maxLocals := maxL) (ret := ret) hy ?_ ?_
  · intro args s m h hn
    obtain ⟨m9, meth, c, hn9, h1, h2, h3, h4, -, h5, h6, -⟩ := Cond.codeWith_spec (atoms_spec (ws := ws) h _ (by rw [hw]; exact List.mem_cons_self))
    cases hn.symm.trans hn9
    exact ⟨meth, c, h1, h2, h3, h4, h5, h6⟩
  · intro p e s m args below meth c s₁ B hml hP _
    have hh0 : s₁.heap = s.heap := by rw [B.state]; rfl
    obtain ⟨t, a1, o, b1, b2, b3⟩ := body p e s m args below meth c s₁ B hml (vx_table (x := y) B (atoms_spec (ws := ws) B.pre _ (by rw [hw]; exact List.mem_cons_self))) hP s₁ hh0 (Stand.of_body B)
    exact ⟨t, o, a1, b1, b2, b3⟩
/-- who never throws, returns -/
theorem e_Met_of (h : vx_Met l y ws rm Pc Qc (fun _ _ _ => False) mc ms free) : Met l y ws rm Pc Qc mc ms free := by
  intro p e a1 a2 a3 s m args below a4 a5 a6 a7
  obtain ⟨n, o, h1, h2, h3, h4⟩ := h p e a1 a2 a3 s m args below a4 a5 a6 a7
  refine ⟨n, o, h1, h2, h3, ?_⟩
  rcases h4 with h4 | ⟨q, -, E, ce, L, hX, -⟩
  · exact h4
  · exact hX.elim
end MF
theorem e_sl_len : ∀ {vs : List Value}, (∀ v ∈ vs, v.category = 1) → (lg_sl vs).length = vs.length
  | [], _ => rfl
  | v :: vs, h => by
    have h1 := h v List.mem_cons_self
    have h2 := e_sl_len (vs := vs) (fun w hw => h w (List.mem_cons_of_mem _ hw))
    unfold lg_sl at h2 ⊢
    rw [List.flatMap_cons, List.length_append, h2, if_neg (by omega)]
    simp only [List.length_cons, List.length_nil]
    omega
theorem e_args_at {w : Value} : ∀ {vs : List Value} {k i : Nat}, (∀ v ∈ vs, v.category = 1) → vs[i]? = some w → (k + i, w) ∈ lv_args k vs
  | [], _, _, _, h => by simp at h
  | v :: vs, k, 0, _, h => by
    simp at h
    subst h
    exact List.mem_cons_self
  | v :: vs, k, i + 1, hc, h => by
    have h1 := hc v List.mem_cons_self
    have := e_args_at (k := k + 1) (i := i) (fun w hw => hc w (List.mem_cons_of_mem _ hw)) (by simpa using h)
    refine List.mem_cons_of_mem _ ?_
    rw [if_neg (by omega)]
    rw [show k + (i + 1) = k + 1 + i by omega]
    exact this
theorem e_SR_at {N : Nat} {ad : Nat → Nat} {v : Value} : ∀ {vs ws : List Value} {i : Nat}, e_SR N ad vs ws → vs[i]? = some v → ∃ w, e_VR N ad v w ∧ ws[i]? = some w
  | [], _, _, _, h => by simp at h
  | _ :: _, [], _, h, _ => h.elim
  | a :: vs, b :: ws, 0, h, h2 => by
    simp at h2
    subst h2
    exact ⟨b, h.1, rfl⟩
  | a :: vs, b :: ws, i + 1, h, h2 => by
    obtain ⟨w, h3, h4⟩ := e_SR_at (i := i) h.2 (by simpa using h2)
    exact ⟨w, h3, by simpa using h4⟩
theorem e_SR_cat1 {N : Nat} {ad : Nat → Nat} : ∀ {vs ws : List Value}, e_SR N ad vs ws → (∀ v ∈ vs, v.category = 1) → ∀ w ∈ ws, w.category = 1
  | [], [], _, _, w, hw => by cases hw
  | v :: vs, w9 :: ws, h, hc, w, hw => by
    rcases List.mem_cons.mp hw with rfl | hw
    · rw [e_VR_cat h.1]; exact hc v List.mem_cons_self
    · exact e_SR_cat1 h.2 (fun z hz => hc z (List.mem_cons_of_mem _ hz)) w hw
  | [], _ :: _, h, _, _, _ => h.elim
  | _ :: _, [], h, _, _, _ => h.elim
theorem e_LR_ent {N : Nat} {ad : Nat → Nat} {as vs : List Value} {n : Nat} (h : e_SR N ad as vs) (hlen : as.length ≤ n) (hcat : ∀ v ∈ as, v.category = 1) : e_LR N ad (e_ent as n) ((lg_sl vs ++ List.replicate (n - (lg_sl vs).length) Slot.unset).toArray) n := by
  have hc := e_SR_cat1 h hcat
  have hl : vs.length = as.length := e_SR_len h
  refine ⟨by unfold e_ent; rw [List.length_append, List.length_replicate]; omega, lv_args 0 vs, lv_entry vs (by rw [e_sl_len hc]; omega), fun i v hi hv => ?_⟩
  unfold e_ent at hi
  by_cases hi2 : i < as.length
  · rw [List.getElem?_append_left hi2] at hi
    obtain ⟨w, h1, h2⟩ := e_SR_at h hi
    refine ⟨w, h1, ?_⟩
    have := e_args_at (k := 0) hc h2
    rw [Nat.zero_add] at this
    exact this
  · rw [List.getElem?_append_right (by omega)] at hi
    rw [List.getElem?_replicate] at hi
    split at hi
    · cases hi
      exact absurd rfl hv
    · cases hi
theorem e_SR_one {N : Nat} {ad : Nat → Nat} {v : Value} : ∀ {ST : List Value}, e_SR N ad [v] ST → ∃ w, ST = [w] ∧ e_VR N ad v w
  | [], h => h.elim
  | [w], h => ⟨w, rfl, h.1⟩
  | _ :: _ :: _, h => h.2.elim
section Bod
variable {l : Launch} {y d : Nat} {σ : e_S} {r : e_O × e_S} {G : e_G} {ad : Nat → Nat} {as vs : List Value} {sz : Nat} {Qc : Array Value → State → Outcome → State → Prop} {XC : String → State → State → Prop}
/-- what is asked of the ends -/
def e_EndR (G : e_G) (ad : Nat → Nat) (σ : e_S) (sz : Nat) (r : e_O × e_S) (Qc : Array Value → State → Outcome → State → Prop) : Prop := ∀ v, r.1 = .inl v → Qc = e_Qr G ad σ sz v r.2
section Ends2
variable {p : Program} {e : Env} {R : Room} {s : State} {m : MethodId} {args : Array Value} {below : List Frame} {meth : Method} {c : Code} {free : Addr → Prop} {A : Nat → Prop}
theorem e_th_all (hy5 : y ≠ 325) (C : e_Cx p l R s m args meth c y d G ad σ A r) (hA : A = va_A (e_w G ad σ) s.heap.size) (hlocks : meth.locks = false) (hh : ∀ x, r.1 = .inr x → e_hh y = []) (hX : e_EndX G ad σ s.heap.size r XC) : e_Th p l e R s m args below meth c (vx_MQ below Qc XC args s (e_c r.2 - e_c σ) (e_s r.2 - e_s σ) A) y G ad σ A r := by
  obtain ⟨F, KS, SS, hCon, hR, hRm, hmi, htb, hlt⟩ := id C
  intro x pc σ1 ad1 LS RT H locs cells slots q ce hr hf hown I hce hcv hcl
  obtain ⟨⟨hK, hP, hD, hS, hw, hA1⟩, hag, hl0, hc, hs⟩ := I
  subst hr
  have hX1 := hX x rfl
  subst hX1
  subst hA
  refine vx_out (E := e_xn x) (fun z hz => ?_) hlocks hce hcv hcl (fun t ht hW => ⟨rfl, ⟨ad1, hag, by rw [ht]; exact hP, hD, hw⟩, hS.F ht⟩) hS.2.2 ?_ ?_
  · rcases htb with h5 | htb
    · exact absurd h5 hy5
    rw [htb, hh x rfl] at hz
    cases hz
  · show cells ≤ e_c σ1 - e_c σ
    omega
  · show slots ≤ e_s σ1 - e_s σ
    omega
theorem e_rt_all (C : e_Cx p l R s m args meth c y d G ad σ A r) (hA : A = va_A (e_w G ad σ) s.heap.size) (hlocks : meth.locks = false) (hQ : e_EndR G ad σ s.heap.size r Qc) : e_Rt p l e R s m args below meth c (vx_MQ below Qc XC args s (e_c r.2 - e_c σ) (e_s r.2 - e_s σ) A) y G ad σ A r := by
  obtain ⟨F, KS, SS, hCon, hR, hRm, hmi, htb, hlt⟩ := id C
  obtain ⟨hx, hb, hml, hown, hts, hlk, hnm, hrt, ho⟩ := id F
  intro pc i st σ1 ad1 LS ST H locs cells slots hd h hSR I
  obtain ⟨⟨hK, hP, hD, hS, hw, hA1⟩, hag, hl0, hc, hs⟩ := I
  have hrk := List.all_eq_true.mp e_rkA y (List.mem_range.mpr hmi)
  unfold e_rkc at hrk
  have fin : ∀ (v w : Option Value), r = (.inl v, σ1) → e_VO σ1.1 ad1 v w → ∀ t : State, t.heap = H → s.WarmedH t.vm → Qc args s (.returned w) t := by
    intro v w hr hvo t ht hW
    subst hr
    have hQ1 := hQ v rfl
    subst hQ1
    subst hA
    exact ⟨⟨ad1, w, rfl, hvo, hag, by rw [ht]; exact hP, hD, hw⟩, hS.F ht⟩
  have hwd : ∀ g : JFrame, r.2 = σ1 → W p l e R s m args below meth c H locs (e_c r.2 - e_c σ) (e_s r.2 - e_s σ) (MQ below Qc args s (e_c r.2 - e_c σ) (e_s r.2 - e_s σ) A) g → W p l e R s m args below meth c H locs cells slots (vx_MQ below Qc XC args s (e_c r.2 - e_c σ) (e_s r.2 - e_s σ) A) g := by
    intro g hr k
    exact vx_ret (W.widen (by rw [hr]; omega) (by rw [hr]; omega) k)
  unfold e_end at h
  split at h
  · rename_i hk
    cases h
    rw [hk] at hrk
    cases ST with
    | cons a b => exact hSR.elim
    | nil =>
      refine hwd _ rfl (W.vret hx hb ?_ (fin none none rfl trivial) hS.2.2 hd)
      rw [hrt]
      split at hrk <;> first | assumption | (rename_i q _; cases q) | cases hrk
  · rename_i v hk
    cases h
    rw [hk] at hrk
    obtain ⟨w, rfl, hw1⟩ := e_SR_one hSR
    cases (show w = .int v from hw1)
    refine hwd _ rfl (W.iret hx hb ?_ (fin (some (.int v)) (some (.int v)) rfl rfl) hS.2.2 hd)
    rw [hrt]
    split at hrk <;> first | assumption | (rename_i q _; cases q) | cases hrk
  · rename_i v hk
    rw [hk] at hrk
    split at h
    · rename_i hv
      cases h
      obtain ⟨w, rfl, hw1⟩ := e_SR_one hSR
      cases (show w = .int v from hw1)
      refine hwd _ rfl (W.zret (ty := .boolean) hx hb ?_ ?_ (fin (some (.int v)) (some (.int v)) rfl rfl) hS.2.2 hd)
      · rw [hrt]
        split at hrk <;> first | assumption | (rename_i q _; cases q) | cases hrk
      · rcases hv with rfl | rfl <;> rfl
    · cases h
  · rename_i v hk
    rw [hk] at hrk
    split at h
    · rename_i hv
      cases h
      obtain ⟨w, rfl, hw1⟩ := e_SR_one hSR
      cases (show w = .int v from hw1)
      refine hwd _ rfl (W.zret (ty := .char) hx hb ?_ ?_ (fin (some (.int v)) (some (.int v)) rfl rfl) hS.2.2 hd)
      · rw [hrt]
        split at hrk <;> first | assumption | (rename_i q _; cases q) | cases hrk
      · exact congrArg Value.int hv
    · cases h
  · rename_i v hk
    rw [hk] at hrk
    split at h
    · rename_i hv
      cases h
      obtain ⟨w, rfl, hw1⟩ := e_SR_one hSR
      cases (show w = .int v from hw1)
      refine hwd _ rfl (W.zret (ty := .byte) hx hb ?_ ?_ (fin (some (.int v)) (some (.int v)) rfl rfl) hS.2.2 hd)
      · rw [hrt]
        split at hrk <;> first | assumption | (rename_i q _; cases q) | cases hrk
      · exact congrArg Value.int hv
    · cases h
  · rename_i v hk
    cases h
    rw [hk] at hrk
    obtain ⟨w, rfl, hw1⟩ := e_SR_one hSR
    cases (show w = .long v from hw1)
    refine hwd _ rfl (W.lret hx hb ?_ (fin (some (.long v)) (some (.long v)) rfl rfl) hS.2.2 hd)
    rw [hrt]
    split at hrk <;> first | assumption | (rename_i q _; cases q) | cases hrk
  · rename_i v hk
    cases h
    rw [hk] at hrk
    obtain ⟨w, rfl, hw1⟩ := e_SR_one hSR
    have hv0 : w = .null ∨ ∃ a, w = .ref a := by
      rcases hw1 with ⟨-, q⟩ | ⟨-, q⟩
      · exact Or.inl q
      · exact Or.inr ⟨_, q⟩
    have hrt3 : ∃ rt, e_rt y = some rt ∧ ((∃ n, rt = .object n) ∨ ∃ t, rt = .array t) := by
      split at hrk <;> first | (rename_i q; exact ⟨_, q, Or.inl ⟨_, rfl⟩⟩) | (rename_i q; exact ⟨_, q, Or.inr ⟨_, rfl⟩⟩) | (rename_i q _; cases q) | cases hrk
    obtain ⟨rt, hrt1, hrt2⟩ := hrt3
    exact hwd _ rfl (W.aret hx hb (hrt.trans hrt1) hrt2 hv0 (fin (some (.ref v)) (some w) rfl hw1) hS.2.2 hd)
  · cases h
end Ends2
theorem e_body (hst : l.stackTraces = false) (hCon : e_Con l d) (hy : y < 338) (hn : ∀ k, k ∈ e_not → y ≠ k) (hlen : as.length ≤ e_mL y) (hcat : ∀ v ∈ as, v.category = 1) (h : e_E (d + 1) y as σ = some r) (hwf : e_WF σ) (hvs : e_SR σ.1 ad as vs)
    (hQ : e_EndR G ad σ sz r Qc) (hX : e_EndX G ad σ sz r XC) : e_Bd l (e_yn y) (e_ws y) (e_rm (d + 1) σ r.2) (e_Pre G ad σ vs sz) Qc XC (e_c r.2 - e_c σ) (e_s r.2 - e_s σ) (va_A (e_w G ad σ) sz) (e_cb y) (e_mL y) (e_rt y) (e_hh y) := by
  intro p e s m args below meth c s₁ B hml ht hv
  obtain ⟨rfl, rfl, hP, KS, hD0, SS⟩ := hv
  obtain ⟨hg, h11⟩ := e_gd_some h
  obtain ⟨n, hrun⟩ := e_lim_some hg
  obtain ⟨cp, inst, kp, se, ini, hmp⟩ := e_mp_some hy hn
  obtain ⟨q1, q2, q3, q4, q5, q6, q7, q8, q9⟩ := e_mp_ok hmp
  have hts := atoms_spec (ws := e_ws y) B.pre
  have F : e_Fix p s m vs.toArray meth c y := ⟨B.exec, B.bytes, hml, by rw [q8]; exact findClass_of_methodNamed B.named, fun w hw => hts w (List.mem_cons_of_mem _ hw), B.notSynchronized, fun h9 => ((name_of_methodNamed B.named B.method).1).trans h9, B.returns, q7⟩
  have hle : e_le σ r.2 := e_Em_E (d + 1) _ _ _ _ h
  have C : e_Cx p l (headSpec (e_ws y) (e_rm (d + 1) σ r.2)).room s m vs.toArray meth c y d G ad σ (va_A (e_w G ad σ) s.heap.size) r :=
    ⟨F, KS, SS, hCon, ⟨by show d + 41 ≤ d + 1 + 40; omega, Nat.le_refl _⟩, ⟨by show e_c r.2 ≤ e_c σ + (e_c r.2 - e_c σ); omega, by show e_s r.2 ≤ e_s σ + (e_s r.2 - e_s σ); omega⟩, hy, Or.inr ht, hst⟩
  rw [lg_entry_eq]
  refine e_sim C (e_th_all (hn 325 (by decide)) C rfl B.notSynchronized (fun x hx => e_hh11 hy (h11 x hx)) hX) (e_rt_all C rfl B.notSynchronized hQ) (e_nt_all C rfl B.notSynchronized hX) n 0 (e_ent as (e_mL y)) [] σ ad _ [] s.heap [] 0 0 hrun (e_LR_ent hvs hlen hcat) trivial ⟨⟨KS.1, hP, hD0.self, va_S.rf, hwf, fun q hq => Or.inr hq⟩, fun _ _ => rfl, e_le_rf _, rfl, rfl⟩
/-- every method of the picture, however deep -/
theorem e_con (hst : l.stackTraces = false) : ∀ d, e_Con l d
  | 0 => fun y as σ r _ _ _ _ h => by cases h
  | d + 1 => fun y as σ r hy hn hlen hcat h hwf G ad vs sz hvs => by
    obtain ⟨cp, inst, kp, se, ini, hmp⟩ := e_mp_some hy hn
    obtain ⟨q1, q2, q3, q4, q5, q6, q7, q8, q9⟩ := e_mp_ok hmp
    obtain ⟨-, h11⟩ := e_gd_some h
    have mk : ∀ (Qc : Array Value → State → Outcome → State → Prop) (XC : String → State → State → Prop), e_EndR G ad σ sz r Qc → e_EndX G ad σ sz r XC → vx_Met l (e_yn y) (e_ws y) (e_rm (d + 1) σ r.2) (e_Pre G ad σ vs sz) Qc XC (e_c r.2 - e_c σ) (e_s r.2 - e_s σ) (va_A (e_w G ad σ) sz) := by
      intro Qc XC hQ hX
      have hB := e_body hst (e_con hst d) hy hn hlen hcat h hwf hvs hQ hX
      by_cases hh : e_hh y = []
      · rw [hh] at hB
        exact e_Bd_0 (ws' := e_U) q5 (by unfold e_ws; rw [e_cw_nil hh]) hB
      · exact e_Bd_h (ws' := e_U) q5 (by unfold e_ws; rw [e_cw_cons hh]) hB
    obtain ⟨r1, r2⟩ := r
    cases r1 with
    | inl v => exact e_Met_of (mk (e_Qr G ad σ sz v r2) _ (fun v9 h9 => by cases h9; rfl) (fun x h9 => by cases h9))
    | inr x => exact ⟨e_hh11 hy (h11 x rfl), mk e_no (e_Xc G ad σ sz x r2) (fun v9 h9 => by cases h9) (fun x9 h9 => by cases h9; rfl)⟩
end Bod
end EC
