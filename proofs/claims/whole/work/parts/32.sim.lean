section EX3
section Sim3
variable {p : Program} {l : Launch} {e : Env} {R : Room} {s : State} {m : MethodId} {args : Array Value} {below : List Frame} {meth : Method} {c : Code} {H : Heap} {locs : List Loc} {cells slots : Nat} {Q : State → Prop}
variable {mi d pc len tgt : Nat} {LS : Array Slot} {ad ad0 : Nat → Nat} {σ σ0 : e_S} {G : e_G} {A : Nat → Prop} {ls st ST : List Value} {r : e_O × e_S}
/-- kinds that a world can hold -/
theorem e_kind (X : e_At G ad σ A s H locs) {a c : Nat} (h : e_k σ a = c) (h0 : c ≠ 0) : c ≤ 12 ∨ (20 ≤ c ∧ c ≤ 23) := by
  obtain ⟨hK, hP, hD, hS, hw, hA⟩ := X
  obtain ⟨a1, a2, a3⟩ := e_k_inv h h0
  by_cases h1 : 20 ≤ c ∧ c ≤ 23
  · exact Or.inr h1
  · refine Or.inl ?_
    have hat := hP (a - 1) _ (e_w_at a1 a2)
    unfold e_en at hat
    rw [a3, if_neg (by omega), if_neg (by omega), if_neg (by omega), if_neg (by omega)] at hat
    obtain ⟨q, hq, -⟩ := hat
    have hlt := (List.getElem?_eq_some_iff.mp hq).1
    have h12 : vwCl.length = 12 := rfl
    omega
theorem e_row_at {i : Instr} (hmi : mi < 338) (h : e_fetch mi pc = some (i, len, tgt)) : decode (e_cb mi) pc = .ok (i, len) ∧ (e_ln i = 0 ∨ len = e_ln i) ∧ e_cst i = true ∧ e_tg pc tgt i = true ∧ e_spc mi (pc, i, len, tgt) = true ∧ e_row2 mi (pc, i, len, tgt) = true := by
  have h1 := List.all_eq_true.mp (e_rw_ok mi hmi) _ (e_look_mem h)
  have h2 := List.all_eq_true.mp (e_row2_ok mi hmi) _ (e_look_mem h)
  unfold e_row at h1
  simp only [Bool.and_eq_true, Bool.or_eq_true, decide_eq_true_eq] at h1
  obtain ⟨⟨⟨⟨g1, g2⟩, g3⟩, g4⟩, g5⟩ := h1
  refine ⟨g1, ?_, g3, g4, g5, h2⟩
  rcases g2 with q | q
  · exact Or.inl (Nat.eq_of_beq_eq_true q)
  · exact Or.inr (Nat.eq_of_beq_eq_true q)
theorem e_Iv_same (I : e_Iv G ad0 σ0 A s ad σ H locs cells slots) {σ' : e_S} {H1 : Heap} {locs1 : List Loc} (hle : e_le σ σ') (hc : e_c σ' = e_c σ) (hs : e_s σ' = e_s σ) (X : e_At G ad σ' A s H1 locs1) : e_Iv G ad0 σ0 A s ad σ' H1 locs1 cells slots :=
  ⟨X, I.2.1, e_le_tr I.2.2.1 hle, hc.trans I.2.2.2.1, hs.trans I.2.2.2.2⟩
theorem e_s_getf {n idx kd k ty : Nat} (C : e_Cx p l R s m args meth c mi d G ad0 σ0 A r) (ih : e_Gl p l e R s m args below meth c Q mi d G ad0 σ0 A r n) (I : e_Iv G ad0 σ0 A s ad σ H locs cells slots) (hL : e_LR σ.1 ad ls LS (e_mL mi)) (hS : e_SR σ.1 ad st ST)
    (hd : decode (e_cb mi) pc = .ok (.getfield idx, 3)) (hlk : e_look (e_fr (e_own mi)) idx = some (kd, k, ty)) (hst : ty = 7 ∨ ty = 8 → W p l e R s m args below meth c H locs cells slots Q (F0 m pc LS ST))
    (h : e_get σ kd k ty st (fun st => e_run (e_E d) mi n (pc + 3) ls st σ) = some r) : W p l e R s m args below meth c H locs cells slots Q (F0 m pc LS ST) := by
  obtain ⟨F, -⟩ := id C
  obtain ⟨X, -⟩ := id I
  have ho : e_own mi < 21 := F.2.2.2.2.2.2.2.2
  unfold e_get at h
  split at h
  · rename_i a r'
    have key : ∀ v : Value, e_k σ a = kd → v = e_fv σ a k ty → e_run (e_E d) mi n (pc + 3) ls (v :: r') σ = some r → W p l e R s m args below meth c H locs cells slots Q (F0 m pc LS ST) := by
      intro v hk hv hrun
      have hkd : kd ≠ 0 := by
        intro h0
        by_cases h40 : kd < 40
        · obtain ⟨q, h1, -⟩ := e_fr_ok ho hlk h40
          omega
        · omega
      have hkk := e_kind X hk hkd
      have hkd20 : kd < 20 := by
        rcases hkk with q | q
        · omega
        · obtain ⟨q1, h1, h2, -⟩ := e_fr_ok ho hlk (by omega)
          have hlt := (List.getElem?_eq_some_iff.mp h2).1
          have h12 : vwCl.length = 12 := rfl
          omega
      obtain ⟨a1, a2, a3⟩ := e_k_inv hk hkd
      obtain ⟨ws, rfl, hok, hr⟩ := e_SR_refv (by omega) hS
      exact e_s_get F X hd hlk hkd20 hk (fun w hw => ih (pc + 3) ls (v :: r') σ ad LS (w :: ws) H locs cells slots hrun hL ⟨by rw [hv]; exact hw, hr⟩ I)
    split at h
    · unfold e_gJ at h
      split at h
      · rename_i hk; exact key _ hk (by unfold e_fv; rw [if_pos rfl]) h
      · cases h
    · unfold e_gF at h
      split at h
      · rename_i hk; exact key _ hk (by unfold e_fv; rw [if_neg (by decide), if_pos rfl]) h
      · cases h
    · exact hst (Or.inl rfl)
    · exact hst (Or.inr rfl)
    · rename_i h2 h3 h7 h8
      unfold e_gI at h
      split at h
      · rename_i hk; exact key _ hk (by unfold e_fv; rw [if_neg h2, if_neg h3]) h
      · cases h
  · cases h
theorem e_s_putf {n idx kd k ty : Nat} (C : e_Cx p l R s m args meth c mi d G ad0 σ0 A r) (ih : e_Gl p l e R s m args below meth c Q mi d G ad0 σ0 A r n) (I : e_Iv G ad0 σ0 A s ad σ H locs cells slots) (hL : e_LR σ.1 ad ls LS (e_mL mi)) (hS : e_SR σ.1 ad st ST)
    (hd : decode (e_cb mi) pc = .ok (.putfield idx, 3)) (hlk : e_look (e_fr (e_own mi)) idx = some (kd, k, ty)) (hsp : e_spc mi (pc, .putfield idx, len, tgt) = true)
    (h : e_put σ kd k ty st (fun st σ => e_run (e_E d) mi n (pc + 3) ls st σ) = some r) : W p l e R s m args below meth c H locs cells slots Q (F0 m pc LS ST) := by
  obtain ⟨F, -⟩ := id C
  obtain ⟨X, -⟩ := id I
  have ho : e_own mi < 21 := F.2.2.2.2.2.2.2.2
  have hwf : e_WF σ := X.2.2.2.2.1
  have hfin : ∀ r : vw_C, vwCl[kd - 1]? = some r → (r.2.1 k).2.2.2 = false ∨ ((e_yn mi).name = "<init>" ∧ r.1 = e_on (e_own mi)) := by
    intro q hq
    unfold e_spc at hsp
    dsimp only at hsp
    rw [hlk] at hsp
    dsimp only at hsp
    rw [hq] at hsp
    simpa using hsp
  have hkd : ∀ a, e_k σ a = kd → kd ≠ 0 ∧ kd < 20 := by
    intro a hk
    have hkd : kd ≠ 0 := by
      intro h0
      obtain ⟨q, h1, -⟩ := e_fr_ok ho hlk (by omega)
      omega
    refine ⟨hkd, ?_⟩
    rcases e_kind X hk hkd with q | q
    · omega
    · obtain ⟨q1, h1, h2, -⟩ := e_fr_ok ho hlk (by omega)
      have hlt := (List.getElem?_eq_some_iff.mp h2).1
      have h12 : vwCl.length = 12 := rfl
      omega
  unfold e_put at h
  split at h
  · rename_i v a r'
    unfold e_pJ at h
    split at h
    · rename_i hk
      obtain ⟨k0, k20⟩ := hkd a hk
      obtain ⟨a1, a2, a3⟩ := e_k_inv hk k0
      obtain ⟨w1, rfl, hS1⟩ := e_SR_long hS
      obtain ⟨ws, rfl, hok, hr⟩ := e_SR_refv (by omega) hS1
      refine e_s_put (σ' := e_uJ σ a k v) F X hd hlk k20 hk hfin (fun t ht => ?_) rfl rfl hwf ?_ ?_ (fun b hb => e_en_uJ hb) (fun H1 locs1 X1 => ih (pc + 3) ls r' _ ad LS ws H1 locs1 cells slots h hL hr (e_Iv_same I (e_le_rf _) rfl rfl X1))
      · cases t <;> first | exact ⟨rfl, rfl⟩ | cases ht
      · unfold e_vl; rw [if_pos rfl]; exact congrArg Value.long (e_u_same (f := σ.2.2.2.1)).symm
      · intro j t hj
        unfold e_vl
        have : e_J (e_uJ σ a k v) a j = e_J σ a j := e_u_ne (f := σ.2.2.2.1) hj
        rw [this]; rfl
    · cases h
  · rename_i v a r'
    unfold e_pF at h
    split at h
    · rename_i hk
      obtain ⟨k0, k20⟩ := hkd a hk
      obtain ⟨a1, a2, a3⟩ := e_k_inv hk k0
      obtain ⟨w, w1, rfl, hv, hS1⟩ := e_SR_ref hS
      obtain ⟨ws, rfl, hok, hr⟩ := e_SR_refv (by omega) hS1
      have hvok : v = 0 ∨ e_ok σ.1 v := by
        rcases hv with ⟨q, -⟩ | ⟨q, -⟩
        · exact Or.inl q
        · exact Or.inr q
      refine e_s_put (σ' := e_uF σ a k v) F X hd hlk k20 hk hfin (fun t ht => ?_) rfl rfl (e_WF_uF hwf hvok) ?_ ?_ (fun b hb => e_en_uF hb) (fun H1 locs1 X1 => ih (pc + 3) ls r' _ ad LS ws H1 locs1 cells slots h hL hr (e_Iv_same I (e_le_rf _) rfl rfl X1))
      · rcases hv with ⟨-, rfl⟩ | ⟨-, rfl⟩ <;> cases t <;> first | exact ⟨rfl, rfl⟩ | cases ht
      · unfold e_vl
        have : e_F (e_uF σ a k v) a k = v := e_u_same (f := σ.2.2.2.2.1)
        rw [if_neg (by decide), if_pos rfl, this]
        unfold e_qo
        rcases hv with ⟨q, rfl⟩ | ⟨q, rfl⟩
        · rw [if_pos q]; rfl
        · rw [if_neg (e_ok_ne q)]; rfl
      · intro j t hj
        unfold e_vl
        have : e_F (e_uF σ a k v) a j = e_F σ a j := e_u_ne (f := σ.2.2.2.2.1) hj
        rw [this]; rfl
    · cases h
  · rename_i v a r'
    unfold e_pZ at h
    split at h
    · rename_i hkv
      obtain ⟨hk, hv01⟩ := hkv
      obtain ⟨k0, k20⟩ := hkd a hk
      obtain ⟨a1, a2, a3⟩ := e_k_inv hk k0
      obtain ⟨w1, rfl, hS1⟩ := e_SR_int hS
      obtain ⟨ws, rfl, hok, hr⟩ := e_SR_refv (by omega) hS1
      refine e_s_put (σ' := e_uI σ a k v) F X hd hlk k20 hk hfin (fun t ht => ?_) rfl rfl hwf ?_ ?_ (fun b hb => e_en_uI hb) (fun H1 locs1 X1 => ih (pc + 3) ls r' _ ad LS ws H1 locs1 cells slots h hL hr (e_Iv_same I (e_le_rf _) rfl rfl X1))
      · rcases hv01 with rfl | rfl <;> cases t <;> first | exact ⟨rfl, rfl⟩ | cases ht
      · unfold e_vl; rw [if_neg (by decide), if_neg (by decide)]; exact congrArg Value.int (e_u_same (f := σ.2.2.1)).symm
      · intro j t hj
        unfold e_vl
        have : e_I (e_uI σ a k v) a j = e_I σ a j := e_u_ne (f := σ.2.2.1) hj
        rw [this]; rfl
    · cases h
  · rename_i v a r'
    unfold e_pI at h
    split at h
    · rename_i hk
      obtain ⟨k0, k20⟩ := hkd a hk
      obtain ⟨a1, a2, a3⟩ := e_k_inv hk k0
      obtain ⟨w1, rfl, hS1⟩ := e_SR_int hS
      obtain ⟨ws, rfl, hok, hr⟩ := e_SR_refv (by omega) hS1
      refine e_s_put (σ' := e_uI σ a k v) F X hd hlk k20 hk hfin (fun t ht => ?_) rfl rfl hwf ?_ ?_ (fun b hb => e_en_uI hb) (fun H1 locs1 X1 => ih (pc + 3) ls r' _ ad LS ws H1 locs1 cells slots h hL hr (e_Iv_same I (e_le_rf _) rfl rfl X1))
      · cases t <;> first | exact ⟨rfl, rfl⟩ | cases ht
      · unfold e_vl; rw [if_neg (by decide), if_neg (by decide)]; exact congrArg Value.int (e_u_same (f := σ.2.2.1)).symm
      · intro j t hj
        unfold e_vl
        have : e_I (e_uI σ a k v) a j = e_I σ a j := e_u_ne (f := σ.2.2.1) hj
        rw [this]; rfl
    · cases h
  · cases h
end Sim3
end EX3
