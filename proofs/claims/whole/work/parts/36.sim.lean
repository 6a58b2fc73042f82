section EX7
section Sim7
variable {p : Program} {l : Launch} {e : Env} {R : Room} {s : State} {m : MethodId} {args : Array Value} {below : List Frame} {meth : Method} {c : Code} {H : Heap} {locs : List Loc} {cells slots : Nat} {Q : State → Prop}
variable {mi d pc len tgt : Nat} {LS : Array Slot} {ad ad0 : Nat → Nat} {σ σ0 : e_S} {G : e_G} {A : Nat → Prop} {ls st ST : List Value} {r : e_O × e_S}
theorem e_Iv_new (I : e_Iv G ad0 σ0 A s ad σ H locs cells slots) {kd ln n q : Nat} {H1 : Heap} (hN : σ.1 ≤ 900000) (X : e_At G (fun a => if a = σ.1 + 1 then q else ad a) (e_new σ kd ln n) A s H1 locs) : e_Iv G ad0 σ0 A s (fun a => if a = σ.1 + 1 then q else ad a) (e_new σ kd ln n) H1 locs (cells + 1) (slots + n) := by
  obtain ⟨X0, hag, hle, hc, hs⟩ := I
  refine ⟨X, fun a ha => ?_, e_le_tr hle (e_le_new _ _ _ _), ?_, ?_⟩
  · show (if a = σ.1 + 1 then q else ad a) = ad0 a
    rw [if_neg (by have := hle.1; unfold e_ok at ha; omega)]
    exact hag a ha
  · show e_c σ + 1 = _; omega
  · show e_s σ + n = _; omega
theorem e_up_new (hN : σ.1 ≤ 900000) {q : Nat} : ∀ a, e_ok σ.1 a → (fun a => if a = σ.1 + 1 then q else ad a) a = ad a := fun a ha => if_neg (by unfold e_ok at ha; omega)
theorem e_ok_new {kd ln n : Nat} : e_ok (e_new σ kd ln n).1 (σ.1 + 1) := Or.inl ⟨by omega, Nat.le_refl _⟩
theorem e_room {kd ln n : Nat} {pc' : Nat} {ls' st' : List Value} {n0 : Nat} (C : e_Cx p l R s m args meth c mi d G ad0 σ0 A r) (I : e_Iv G ad0 σ0 A s ad σ H locs cells slots) (h : e_run (e_E d) mi n0 pc' ls' st' (e_new σ kd ln n) = some r) : cells + 1 ≤ R.cells ∧ slots + n ≤ R.slots := by
  obtain ⟨-, -, -, -, -, hRm, -⟩ := C
  obtain ⟨-, -, -, hc, hs⟩ := I
  have h1 := e_le_run (e_Em_E d) _ _ _ _ _ _ _ h
  have a1 : e_c σ + 1 ≤ e_c r.2 := h1.2.1
  have a2 : e_s σ + n ≤ e_s r.2 := h1.2.2.1
  have b1 := hRm.1; have b2 := hRm.2
  exact ⟨by omega, by omega⟩
set_option maxHeartbeats 8000000 in
theorem e_s_mem {n : Nat} {i : Instr} (C : e_Cx p l R s m args meth c mi d G ad0 σ0 A r) (ih : e_Gl p l e R s m args below meth c Q mi d G ad0 σ0 A r n) (th : e_Th p l e R s m args below meth c Q mi G ad0 σ0 A r) (rt : e_Rt p l e R s m args below meth c Q mi G ad0 σ0 A r) (nt : e_Nt p l e R s m args below meth c Q mi G ad0 σ0 A r)
    (I : e_Iv G ad0 σ0 A s ad σ H locs cells slots) (hL : e_LR σ.1 ad ls LS (e_mL mi)) (hS : e_SR σ.1 ad st ST) (hf : e_fetch mi pc = some (i, len, tgt))
    (h : e_mem (e_E d) mi (e_run (e_E d) mi n) pc len tgt ls st σ i = some r) : W p l e R s m args below meth c H locs cells slots Q (F0 m pc LS ST) := by
  obtain ⟨F, KS, SS, hCon, hR, hRm, hmi, htb, hlt⟩ := id C
  obtain ⟨X, hag, hl0, hc, hs⟩ := id I
  obtain ⟨hx, hb, hml, hown, hts, hlk, hnm, hrt, ho⟩ := id F
  obtain ⟨hdec, hlen, hcst, htg, hsp, hr2⟩ := e_row_at hmi hf
  have hwf : e_WF σ := X.2.2.2.2.1
  cases i <;> first | (simp only [e_mem] at h; cases h; done) | skip
  case goto off =>
    exact lv_goto hx hb (by rcases hlen with q | q; exact absurd q (by simp [e_ln]); rw [q] at hdec; exact hdec) (of_decide_eq_true htg) (ih _ _ _ _ _ _ _ _ _ _ _ h hL hS I)
  case getfield idx =>
    have hl3 : len = 3 := by rcases hlen with q | q; exact absurd q (by simp [e_ln]); exact q
    subst hl3
    simp only [e_mem] at h
    split at h
    · rename_i kd k ty hq
      exact e_s_getf C ih I hL hS hdec hq (fun hty => e_s_gsf C ih I hL hS hdec hq hty h) h
    · cases h
  case putfield idx =>
    have hl3 : len = 3 := by rcases hlen with q | q; exact absurd q (by simp [e_ln]); exact q
    subst hl3
    simp only [e_mem] at h
    split at h
    · rename_i kd k ty hq
      exact e_s_putf C ih I hL hS hdec hq hsp h
    · cases h
  case arraylength =>
    have hl3 : len = 1 := by rcases hlen with q | q; exact absurd q (by simp [e_ln]); exact q
    subst hl3
    simp only [e_mem] at h
    split at h
    · exact e_s_ald C ih I hL hS hdec h
    · cases h
  case iaload =>
    have hl3 : len = 1 := by rcases hlen with q | q; exact absurd q (by simp [e_ln]); exact q
    subst hl3
    simp only [e_mem] at h
    split at h
    · exact e_s_iad C ih I hL hS hdec h
    · cases h
  case baload =>
    have hl3 : len = 1 := by rcases hlen with q | q; exact absurd q (by simp [e_ln]); exact q
    subst hl3
    simp only [e_mem] at h
    split at h
    · exact e_s_zad C ih I hL hS hdec h
    · cases h
  case laload =>
    have hl3 : len = 1 := by rcases hlen with q | q; exact absurd q (by simp [e_ln]); exact q
    subst hl3
    simp only [e_mem] at h
    split at h
    · obtain ⟨w1, rfl, hS1⟩ := e_SR_int hS
      unfold e_ja at h
      split at h
      · rename_i hk
        obtain ⟨a1, a2, a3⟩ := e_k_inv hk (by omega)
        obtain ⟨ws, rfl, hok, hr⟩ := e_SR_refv (by omega) hS1
        split at h
        · cases h
        · rename_i hi
          exact e_s_ja F X hdec hk hi (ih _ _ _ _ _ _ _ _ _ _ _ h hL ⟨rfl, hr⟩ I)
      · cases h
    · cases h
  case aaload =>
    have hl3 : len = 1 := by rcases hlen with q | q; exact absurd q (by simp [e_ln]); exact q
    subst hl3
    simp only [e_mem] at h
    split at h
    · obtain ⟨w1, rfl, hS1⟩ := e_SR_int hS
      unfold e_qa at h
      split at h
      · rename_i hk
        obtain ⟨a1, a2, a3⟩ := e_k_inv hk (by omega)
        obtain ⟨ws, rfl, hok, hr⟩ := e_SR_refv (by omega) hS1
        split at h
        · cases h
        · rename_i hi
          exact e_s_qa F X hdec hk hi (fun w hw => ih _ _ _ _ _ _ _ _ _ _ _ h hL ⟨hw, hr⟩ I)
      · split at h
        · rename_i ha
          split at h
          · cases h
          · rename_i hi
            exact e_s_qst C ih I hL hS hdec ha hi h
        · cases h
    · cases h
  case iastore =>
    have hl3 : len = 1 := by rcases hlen with q | q; exact absurd q (by simp [e_ln]); exact q
    subst hl3
    simp only [e_mem] at h
    split at h
    · obtain ⟨w0, rfl, hS0⟩ := e_SR_int hS
      obtain ⟨w1, rfl, hS1⟩ := e_SR_int hS0
      unfold e_is at h
      split at h
      · rename_i hk
        obtain ⟨a1, a2, a3⟩ := e_k_inv hk (by omega)
        obtain ⟨ws, rfl, hok, hr⟩ := e_SR_refv (by omega) hS1
        split at h
        · cases h
        · rename_i hi
          exact e_s_is F X hdec hk hi (fun H1 locs1 X1 => ih _ _ _ _ _ _ _ _ _ _ _ h hL hr (e_Iv_same I (e_le_rf _) rfl rfl X1))
      · cases h
    · cases h
  case bastore =>
    have hl3 : len = 1 := by rcases hlen with q | q; exact absurd q (by simp [e_ln]); exact q
    subst hl3
    simp only [e_mem] at h
    split at h
    · obtain ⟨w0, rfl, hS0⟩ := e_SR_int hS
      obtain ⟨w1, rfl, hS1⟩ := e_SR_int hS0
      unfold e_zs at h
      split at h
      · rename_i hk
        obtain ⟨a1, a2, a3⟩ := e_k_inv hk (by omega)
        obtain ⟨ws, rfl, hok, hr⟩ := e_SR_refv (by omega) hS1
        split at h
        · cases h
        · rename_i hi
          exact e_s_zs F X hdec hk hi (fun H1 locs1 X1 => ih _ _ _ _ _ _ _ _ _ _ _ h hL hr (e_Iv_same I (e_le_rf _) rfl rfl X1))
      · cases h
    · cases h
  case lastore =>
    have hl3 : len = 1 := by rcases hlen with q | q; exact absurd q (by simp [e_ln]); exact q
    subst hl3
    simp only [e_mem] at h
    split at h
    · obtain ⟨w0, rfl, hS0⟩ := e_SR_long hS
      obtain ⟨w1, rfl, hS1⟩ := e_SR_int hS0
      unfold e_js at h
      split at h
      · rename_i hk
        obtain ⟨a1, a2, a3⟩ := e_k_inv hk (by omega)
        obtain ⟨ws, rfl, hok, hr⟩ := e_SR_refv (by omega) hS1
        split at h
        · cases h
        · rename_i hi
          exact e_s_js F X hdec hk hi (fun H1 locs1 X1 => ih _ _ _ _ _ _ _ _ _ _ _ h hL hr (e_Iv_same I (e_le_rf _) rfl rfl X1))
      · cases h
    · cases h
  case aastore =>
    have hl3 : len = 1 := by rcases hlen with q | q; exact absurd q (by simp [e_ln]); exact q
    subst hl3
    simp only [e_mem] at h
    split at h
    · obtain ⟨w0, v0, rfl, hv, hS0⟩ := e_SR_ref hS
      obtain ⟨w1, rfl, hS1⟩ := e_SR_int hS0
      unfold e_qs at h
      split at h
      · rename_i hk
        obtain ⟨hk, hk6⟩ := hk
        obtain ⟨a1, a2, a3⟩ := e_k_inv hk (by omega)
        obtain ⟨b1, b2, b3⟩ := e_k_inv hk6 (by omega)
        obtain ⟨ws, rfl, hok, hr⟩ := e_SR_refv (by omega) hS1
        rcases hv with ⟨q, -⟩ | ⟨q, rfl⟩
        · omega
        · split at h
          · cases h
          · rename_i hi
            exact e_s_qs F X hdec hk hk6 hi (fun H1 locs1 X1 => ih _ _ _ _ _ _ _ _ _ _ _ h hL hr (e_Iv_same I (e_le_rf _) rfl rfl X1))
      · cases h
    · cases h
  case newarray t =>
    have hl3 : len = 2 := by rcases hlen with q | q; exact absurd q (by simp [e_ln]); exact q
    subst hl3
    simp only [e_mem] at h
    have key : ∀ (kd : Nat) (nn : Int32) (r' : List Value), ((t = .int ∧ kd = 20) ∨ (t = .boolean ∧ kd = 21) ∨ (t = .long ∧ kd = 22)) → st = .int nn :: r' → e_na σ kd nn (fun a σ => e_run (e_E d) mi n (pc + 2) ls (.ref a :: r') σ) = some r → W p l e R s m args below meth c H locs cells slots Q (F0 m pc LS ST) := by
      intro kd nn r' ht hst h7
      clear h
      subst hst
      obtain ⟨w1, rfl, hS1⟩ := e_SR_int hS
      unfold e_na at h7
      by_cases hn : nn < 0 ∨ 100000 < nn.toNatClampNeg ∨ 900000 < σ.1
      · rw [if_pos hn] at h7; cases h7
      · rw [if_neg hn] at h7
        have hN : σ.1 ≤ 900000 := by omega
        obtain ⟨r1, r2⟩ := e_room C I h7
        exact e_s_na F X hdec ht (fun q => hn (Or.inl q)) (by omega) hN r1 r2 (fun q H1 X1 => ih _ _ _ _ _ _ _ _ _ _ _ h7 (e_LR_up (Nat.le_succ _) (e_up_new hN) hL) ⟨Or.inr ⟨e_ok_new, by show Value.ref q = Value.ref (if σ.1 + 1 = σ.1 + 1 then q else ad (σ.1 + 1)); rw [if_pos rfl]⟩, e_SR_up (Nat.le_succ _) (e_up_new hN) hS1⟩ (e_Iv_new I hN X1))
    split at h
    · exact key 20 _ _ (Or.inl ⟨rfl, rfl⟩) rfl h
    · exact key 21 _ _ (Or.inr (Or.inl ⟨rfl, rfl⟩)) rfl h
    · exact key 22 _ _ (Or.inr (Or.inr ⟨rfl, rfl⟩)) rfl h
    · cases h
  case anewarray idx =>
    have hl3 : len = 3 := by rcases hlen with q | q; exact absurd q (by simp [e_ln]); exact q
    subst hl3
    have h3 := List.all_eq_true.mp (e_row3_ok mi hmi) _ (e_look_mem hf)
    simp only [e_mem] at h
    split at h
    · rename_i nn r'
      obtain ⟨w1, rfl, hS1⟩ := e_SR_int hS
      unfold e_na at h
      by_cases hn : nn < 0 ∨ 100000 < nn.toNatClampNeg ∨ 900000 < σ.1
      · rw [if_pos hn] at h; cases h
      · rw [if_neg hn] at h
        have hN : σ.1 ≤ 900000 := by omega
        obtain ⟨r1, r2⟩ := e_room C I h
        have hl : Cond.classLink (e_on (e_own mi)) idx RX6 ∈ e_U := by
          unfold e_row3 at h3
          dsimp only at h3
          rw [Bool.and_eq_true] at h3
          rw [Nat.eq_of_beq_eq_true h3.1, Nat.eq_of_beq_eq_true h3.2]
          exact e_an_U
        exact e_s_anew F X KS.2.2.2.2.2 hdec hl (fun q => hn (Or.inl q)) (by omega) hN r1 r2 (fun q H1 X1 => ih _ _ _ _ _ _ _ _ _ _ _ h (e_LR_up (Nat.le_succ _) (e_up_new hN) hL) ⟨Or.inr ⟨e_ok_new, by show Value.ref q = Value.ref (if σ.1 + 1 = σ.1 + 1 then q else ad (σ.1 + 1)); rw [if_pos rfl]⟩, e_SR_up (Nat.le_succ _) (e_up_new hN) hS1⟩ (e_Iv_new I hN X1))
    · cases h
  case new idx =>
    have hl3 : len = 3 := by rcases hlen with q | q; exact absurd q (by simp [e_ln]); exact q
    subst hl3
    simp only [e_mem] at h
    split at h
    · rename_i x hq
      unfold e_g9 at h
      split at h
      · rename_i hw9
        cases h
        exact nt _ _ _ _ _ _ _ _ _ _ _ _ _ _ hf hq rfl hw9 hS (e_LS_size hL) I
      · cases h
    · split at h
      · rename_i kd nn hq
        unfold e_nw at h
        by_cases hn : 900000 < σ.1
        · rw [if_pos hn] at h; cases h
        · rw [if_neg hn] at h
          have hN : σ.1 ≤ 900000 := by omega
          obtain ⟨r1, r2⟩ := e_room C I h
          obtain ⟨q9, g1, g2, g3, g4⟩ := e_nw_ok ho hq
          exact e_s_new F X hdec g1 g2 g3 g4 hN r1 r2 (fun q H1 X1 => ih _ _ _ _ _ _ _ _ _ _ _ h (e_LR_up (Nat.le_succ _) (e_up_new hN) hL) ⟨Or.inr ⟨e_ok_new, by show Value.ref q = Value.ref (if σ.1 + 1 = σ.1 + 1 then q else ad (σ.1 + 1)); rw [if_pos rfl]⟩, e_SR_up (Nat.le_succ _) (e_up_new hN) hS⟩ (e_Iv_new I hN X1))
      · cases h
  case invokevirtual idx =>
    have hl3 : len = 3 := by rcases hlen with q | q; exact absurd q (by simp [e_ln]); exact q
    subst hl3
    exact e_s_call C ih th I hL hS (Or.inr (Or.inl ⟨rfl, rfl⟩)) hdec hr2 (List.all_eq_true.mp (e_row3_ok mi hmi) _ (e_look_mem hf)) h
  case invokespecial idx =>
    have hl3 : len = 3 := by rcases hlen with q | q; exact absurd q (by simp [e_ln]); exact q
    subst hl3
    exact e_s_call C ih th I hL hS (Or.inr (Or.inr ⟨rfl, rfl⟩)) hdec hr2 (List.all_eq_true.mp (e_row3_ok mi hmi) _ (e_look_mem hf)) h
  case invokestatic idx =>
    have hl3 : len = 3 := by rcases hlen with q | q; exact absurd q (by simp [e_ln]); exact q
    subst hl3
    exact e_s_call C ih th I hL hS (Or.inl ⟨rfl, rfl⟩) hdec hr2 (List.all_eq_true.mp (e_row3_ok mi hmi) _ (e_look_mem hf)) h
  case idiv =>
    have hl3 : len = 1 := by rcases hlen with q | q; exact absurd q (by simp [e_ln]); exact q
    subst hl3
    simp only [e_mem] at h
    split at h
    · obtain ⟨w0, rfl, hS0⟩ := e_SR_int hS
      obtain ⟨w1, rfl, hS1⟩ := e_SR_int hS0
      unfold e_div at h
      split at h
      · cases h
      · rename_i hy
        exact lv_idiv hx hb hdec hy (ih _ _ _ _ _ _ _ _ _ _ _ h hL ⟨rfl, hS1⟩ I)
    · cases h
  case irem =>
    have hl3 : len = 1 := by rcases hlen with q | q; exact absurd q (by simp [e_ln]); exact q
    subst hl3
    simp only [e_mem] at h
    split at h
    · obtain ⟨w0, rfl, hS0⟩ := e_SR_int hS
      obtain ⟨w1, rfl, hS1⟩ := e_SR_int hS0
      unfold e_rem at h
      split at h
      · cases h
      · rename_i hy
        exact lv_irem hx hb hdec hy (ih _ _ _ _ _ _ _ _ _ _ _ h hL ⟨rfl, hS1⟩ I)
    · cases h
  case tableswitch dd lo hi offs =>
    simp only [e_mem] at h
    split at h
    · rename_i ps dt x r' hq
      exact e_s_tsw C ih I hL hS hdec hq hsp h
    · cases h
  case lookupswitch dd prs =>
    simp only [e_mem] at h
    split at h
    · rename_i ps dt x r' hq
      exact e_s_lsw C ih I hL hS hdec hq hsp h
    · cases h
  case ldc idx =>
    have hl3 : len = 2 := by rcases hlen with q | q; exact absurd q (by simp [e_ln]); exact q
    subst hl3
    have h3 := List.all_eq_true.mp (e_row3_ok mi hmi) _ (e_look_mem hf)
    simp only [e_mem] at h
    split at h
    · rename_i v hq
      rcases e_ld_ok ho hq with ⟨x, rfl, hl⟩ | ⟨x, rfl, hl⟩
      · exact lv_ldc hx hb hown (hts _ hl) hdec (ih _ _ _ _ _ _ _ _ _ _ _ h hL ⟨rfl, hS⟩ I)
      · unfold e_row3 at h3
        dsimp only at h3
        rw [hq] at h3
        cases h3
    · cases h
  case ldc_w idx =>
    have hl3 : len = 3 := by rcases hlen with q | q; exact absurd q (by simp [e_ln]); exact q
    subst hl3
    have h3 := List.all_eq_true.mp (e_row3_ok mi hmi) _ (e_look_mem hf)
    simp only [e_mem] at h
    split at h
    · rename_i v hq
      rcases e_ld_ok ho hq with ⟨x, rfl, hl⟩ | ⟨x, rfl, hl⟩
      · exact lv_ldcw hx hb hown (hts _ hl) hdec (ih _ _ _ _ _ _ _ _ _ _ _ h hL ⟨rfl, hS⟩ I)
      · unfold e_row3 at h3
        dsimp only at h3
        rw [hq] at h3
        cases h3
    · cases h
  case ldc2_w idx =>
    have hl3 : len = 3 := by rcases hlen with q | q; exact absurd q (by simp [e_ln]); exact q
    subst hl3
    have h3 := List.all_eq_true.mp (e_row3_ok mi hmi) _ (e_look_mem hf)
    simp only [e_mem] at h
    split at h
    · rename_i v hq
      rcases e_ld_ok ho hq with ⟨x, rfl, hl⟩ | ⟨x, rfl, hl⟩
      · unfold e_row3 at h3
        dsimp only at h3
        rw [hq] at h3
        cases h3
      · exact lv_ldc2 hx hb hown (hts _ hl) hdec (ih _ _ _ _ _ _ _ _ _ _ _ h hL ⟨rfl, hS⟩ I)
    · cases h
  case getstatic idx =>
    have hl3 : len = 3 := by rcases hlen with q | q; exact absurd q (by simp [e_ln]); exact q
    subst hl3
    simp only [e_mem] at h
    split at h
    · rename_i v hq
      exact e_s_gst C ih I hL hS hdec hq h
    · cases h
  case if_acmp cc off =>
    have hl3 : len = 3 := by rcases hlen with q | q; exact absurd q (by simp [e_ln]); exact q
    subst hl3
    simp only [e_mem] at h
    split at h
    · exact e_s_acmp C ih I hL hS hdec htg (by cases cc <;> exact h)
    · cases h
  case ireturn =>
    have hl3 : len = 1 := by rcases hlen with q | q; exact absurd q (by simp [e_ln]); exact q
    subst hl3
    exact rt _ _ _ _ _ _ _ _ _ _ _ hdec h hS I
  case lreturn =>
    have hl3 : len = 1 := by rcases hlen with q | q; exact absurd q (by simp [e_ln]); exact q
    subst hl3
    exact rt _ _ _ _ _ _ _ _ _ _ _ hdec h hS I
  case areturn =>
    have hl3 : len = 1 := by rcases hlen with q | q; exact absurd q (by simp [e_ln]); exact q
    subst hl3
    exact rt _ _ _ _ _ _ _ _ _ _ _ hdec h hS I
  case return_ =>
    have hl3 : len = 1 := by rcases hlen with q | q; exact absurd q (by simp [e_ln]); exact q
    subst hl3
    exact rt _ _ _ _ _ _ _ _ _ _ _ hdec h hS I
theorem e_sw_none {i : Instr} (h : e_ln i = 0) : (∀ st, e_pure i st = none) ∧ (∀ ls st, e_loc i ls st = none) ∧ ∀ st, e_br i st = none := by
  cases i <;> first | (simp [e_ln] at h; done) | exact ⟨fun _ => rfl, fun _ _ => rfl, fun _ => rfl⟩
/-- THE PICTURE IS FOLLOWED -/
theorem e_sim (C : e_Cx p l R s m args meth c mi d G ad0 σ0 A r) (th : e_Th p l e R s m args below meth c Q mi G ad0 σ0 A r) (rt : e_Rt p l e R s m args below meth c Q mi G ad0 σ0 A r) (nt : e_Nt p l e R s m args below meth c Q mi G ad0 σ0 A r) : ∀ n, e_Gl p l e R s m args below meth c Q mi d G ad0 σ0 A r n := by
  intro n
  induction n with
  | zero => intro pc ls st σ ad LS ST H locs cells slots h; cases h
  | succ n ih =>
    intro pc ls st σ ad LS ST H locs cells slots h hL hS I
    obtain ⟨F, -, -, -, -, -, hmi, -⟩ := id C
    obtain ⟨hx, hb, -⟩ := id F
    replace h : e_stp (e_E d) mi (e_run (e_E d) mi n) pc ls st σ = some r := h
    unfold e_stp at h
    split at h
    · cases h
    · rename_i i len tgt hf
      obtain ⟨hdec, hlen, hcst, htg, hsp, hr2⟩ := e_row_at hmi hf
      split at h
      · rename_i st' hp
        have hl : len = e_ln i := by
          rcases hlen with q | q
          · rw [(e_sw_none q).1] at hp; cases hp
          · exact q
        exact e_s_pure hx hb hp hdec hl hcst hS (fun ST' hS' => ih _ _ _ _ _ _ _ _ _ _ _ h hL hS' I)
      · split at h
        · rename_i ls' st' hp
          have hl : len = e_ln i := by
            rcases hlen with q | q
            · rw [(e_sw_none q).2.1] at hp; cases hp
            · exact q
          exact e_s_loc hx hb hp hdec hl hL hS (fun LS' ST' hL' hS' => ih _ _ _ _ _ _ _ _ _ _ _ h hL' hS' I)
        · split at h
          · rename_i b st' hp
            have hl : len = e_ln i := by
              rcases hlen with q | q
              · rw [(e_sw_none q).2.2] at hp; cases hp
              · exact q
            exact e_s_br hx hb hp hdec hl htg hS (fun hbt ST' hS' => ih _ _ _ _ _ _ _ _ _ _ _ (by rw [if_pos hbt] at h; exact h) hL hS' I) (fun hbf ST' hS' => ih _ _ _ _ _ _ _ _ _ _ _ (by rw [if_neg hbf] at h; exact h) hL hS' I)
          · exact e_s_mem C ih th rt nt I hL hS hf h
end Sim7
end EX7
