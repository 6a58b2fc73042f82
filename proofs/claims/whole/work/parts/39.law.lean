section EW
/-- the picture's start: no cell, the script -/
def e_s0 (L : Nat) (xs : Nat → Int32) : e_S := (0, (fun _ => (0, 0)), (fun _ _ => 0), (fun _ _ => 0), (fun _ _ => 0), (0, 0), (L, xs))
theorem e_start0 {p : Program} {s : State} {m : MethodId} {meth : Method} {c : Code} {b L : Nat} {xs : Nat → Int32} (hL : L ≤ 3072) (C0 : lw_At p s m meth c b L xs) : ∃ (G : e_G) (ad : Nat → Nat), e_KS G s ∧ e_SS (e_sd ad) L xs (fun q => s.heap.size ≤ q) s s.heap ∧ ad 1000000 = b := by
  obtain ⟨-, -, -, -, -, k6, k7, k8, -, k10⟩ := C0
  obtain ⟨cur, kX, hcur, -⟩ := Cond.instantiable_spec (e_lt_at k6 (i := 148) (w := .instantiable "WhiteBoard" 13) (by decide +kernel))
  obtain ⟨G, KS⟩ := e_KS0 (b := b) k6 k10 hcur
  obtain ⟨sd, SS, h0⟩ := e_SS0 (by omega) k6 k10 k7 k8
  have he : e_sd (fun a => sd (a - 1000000)) = sd := funext fun k => by
    show sd (1000000 + k - 1000000) = sd k
    rw [Nat.add_sub_cancel_left]
  exact ⟨G, fun a => sd (a - 1000000), KS, by rw [he]; exact SS, h0⟩
theorem e_rm1 : room_1.frames = 2048 ∧ room_1.locals = 84000 ∧ room_1.cells = 601024 ∧ room_1.slots = 7293034 := ⟨rfl, rfl, rfl, rfl⟩
theorem e_law_c : e_cb 325 = code := rfl
theorem e_law_m : e_mL 325 = 7 := by decide +kernel
theorem e_law_o : e_own 325 = 13 := by decide +kernel
theorem e_law_n : e_on 13 = R_law := by decide +kernel
theorem e_law_r : e_rt 325 = ret := by rfl
theorem e_law_i : ¬ (e_yn 325).name = "<init>" := by decide +kernel
theorem e_end4 {i : Instr} {st : List Value} {σ1 σf : e_S} {v : Int32} (h : e_end 4 i st σ1 = some (.inl (some (.int v)), σf)) : i = .ireturn ∧ st = [.int v] ∧ σ1 = σf := by
  unfold e_end at h
  split at h
  all_goals first
    | (split at h
       · cases h; exact ⟨rfl, rfl, rfl⟩
       · cases h)
    | (cases h; done)
    | (rename_i hk; exact absurd hk (by decide))
    | (rename_i hk _; exact absurd hk (by decide))
    | (rename_i hk _ _; exact absurd hk (by decide))
/-- the law, out of its picture -/
theorem e_law {p : Program} {e : Env} {s : State} {m : MethodId} {below : List Frame} {meth : Method} {c : Code} (l : Launch) (hst : l.stackTraces = false) {b L d : Nat} {xs : Nat → Int32} {σf : e_S} (hL : L ≤ 3072) (C0 : lw_At p s m meth c b L xs) (hd : d ≤ 1000)
    (h : e_E (d + 1) 325 [.ref 1000000] (e_s0 L xs) = some (.inl (some (.int 1)), σf)) (hc : e_c σf ≤ 601024) (hs : e_s σf ≤ 7293034) : W p l e room_1 s m #[Value.ref b] below meth c s.heap [] 0 0 (lw_Z below #[Value.ref b] s) (entryFrame m ([Value.ref b] : List Value).toArray 7) := by
  obtain ⟨G, ad, KS, SS, hb⟩ := e_start0 hL C0
  obtain ⟨k1, k2, k3, k4, k5, k6, k7, k8, k9, k10⟩ := C0
  obtain ⟨n, hrun⟩ := e_lim_some (e_gd_some h).1
  have F : e_Fix p s m #[Value.ref b] meth c 325 := ⟨k1, k2.trans e_law_c.symm, k4.trans e_law_m.symm, by rw [e_law_o, e_law_n]; exact k5, fun w hw => k6 w (List.mem_filter.mp hw).1, k9, fun h9 => absurd h9 e_law_i, k3.trans e_law_r.symm, by rw [e_law_o]; decide⟩
  have C : e_Cx p l room_1 s m #[Value.ref b] meth c 325 d G ad (e_s0 L xs) (fun q => s.heap.size ≤ q) (.inl (some (.int 1)), σf) :=
    ⟨F, KS, SS, e_con hst d, ⟨by rw [e_rm1.1]; omega, by rw [e_rm1.2.1]; omega⟩, ⟨by rw [e_rm1.2.2.1]; exact Nat.le_trans hc (Nat.le_add_left _ _), by rw [e_rm1.2.2.2]; exact Nat.le_trans hs (Nat.le_add_left _ _)⟩, by omega, Or.inl rfl, hst⟩
  have hvs : e_SR (e_s0 L xs).1 ad [.ref 1000000] [.ref b] := ⟨Or.inr ⟨Or.inr (by omega), by rw [hb]⟩, trivial⟩
  rw [lg_entry_eq]
  refine e_sim C (fun x pc σ ad LS RT H locs cells slots q ce hr => by cases hr) ?_ (fun pc idx len tgt x st σ ad LS ST H locs cells slots hf hq hr => by cases hr) n 0 (e_ent [.ref 1000000] (e_mL 325)) [] (e_s0 L xs) ad _ [] s.heap [] 0 0 hrun (by rw [e_law_m]; exact e_LR_ent (n := 7) hvs (by decide) (fun v hv => by simp at hv; subst hv; rfl)) trivial ⟨⟨KS.1, fun k q hq => by simp [e_w, e_s0] at hq, ⟨fun i j p q hi => by simp [e_w, e_s0] at hi, fun k q hq => by simp [e_w, e_s0] at hq⟩, va_S.rf, ?_, fun q hq => hq⟩, fun _ _ => rfl, e_le_rf _, rfl, rfl⟩
  · intro pc i st σ1 ad1 LS ST H locs cells slots hd9 hend hSR I
    obtain ⟨⟨hK, hP, hD, hS, hw, hA1⟩, hag, hl0, hc0, hs0⟩ := I
    replace hend : e_end 4 i st σ1 = some (.inl (some (.int 1)), σf) := hend
    obtain ⟨rfl, rfl, rfl⟩ := e_end4 hend
    obtain ⟨w, rfl, hw1⟩ := e_SR_one hSR
    cases (show w = .int 1 from hw1)
    have c1 : cells ≤ 601024 := by
      have z : e_c (e_s0 L xs) = 0 := rfl
      omega
    have c2 : slots ≤ 7293034 := by
      have z : e_s (e_s0 L xs) = 0 := rfl
      omega
    exact va_forget (fun q hq => hS.2.2 q hq) (W.widen c1 c2 (lw_ret k1 k2 k3 k9 (by rw [← e_law_c]; exact hd9)))
  · intro a k h1 h2
    exact absurd (Nat.le_trans h1 h2) (show ¬ (1 ≤ 0) by omega)
end EW
