section EX6A
section Sim6A
variable {p : Program} {l : Launch} {e : Env} {R : Room} {s : State} {m : MethodId} {args : Array Value} {below : List Frame} {meth : Method} {c : Code} {H : Heap} {locs : List Loc} {cells slots : Nat} {Q : State → Prop}
variable {mi d pc len tgt : Nat} {LS : Array Slot} {ad ad0 : Nat → Nat} {σ σ0 : e_S} {G : e_G} {A : Nat → Prop} {ls st ST : List Value} {r : e_O × e_S}
theorem e_w_ol : Cond.methodLink (e_on 7) 61 ⟨"WhiteBoard$Word", "ordinal", "()I"⟩ ∈ e_U := e_U_at (i := 999) (by decide +kernel) (by rfl)
theorem e_w_om : Cond.sameMethod "WhiteBoard$Word" "java/lang/Enum" "ordinal" "()I" ∈ e_U := e_U_at (i := 1000) (by decide +kernel) (by rfl)
theorem e_w_os : Cond.selects "WhiteBoard$Word" ⟨"WhiteBoard$Word", "ordinal", "()I"⟩ yJx29ce0_ordinal_8abf5 ∈ e_U := e_U_at (i := 1002) (by decide +kernel) (by rfl)
theorem e_w_on : Cond.instanceMethod yJx29ce0_ordinal_8abf5 ∈ e_U := e_U_at (i := 1003) (by decide +kernel) (by rfl)
set_option maxRecDepth 20000 in
theorem e_w_od : Cond.code yJx29ce0_ordinal_8abf5 cJx29ce0_ordinal_8abf5 1 (some .int) ∈ e_U := e_U_at (i := 1004) (by rfl) (by rfl)
theorem e_w_oe : Cond.initialized "java/lang/Enum" ∈ e_U := e_U_at (i := 143) (by decide +kernel) (by rfl)
theorem e_w_of : Cond.fieldLink "java/lang/Enum" 7 "java/lang/Enum" "ordinal" "I" ∈ e_U := e_U_at (i := 2326) (by decide +kernel) (by rfl)
theorem e_od0 : decode cJx29ce0_ordinal_8abf5 0 = .ok (.aload_n 0, 1) := by decide +kernel
theorem e_od1 : decode cJx29ce0_ordinal_8abf5 1 = .ok (.getfield 7, 3) := by decide +kernel
theorem e_od4 : decode cJx29ce0_ordinal_8abf5 4 = .ok (.ireturn, 1) := by decide +kernel
/-- the place of a constant of an enum -/
theorem e_ord_met (l : Launch) {G : e_G} {ad : Nat → Nat} {σ : e_S} {sz k : Nat} (hk : k < 17) (hw : e_WF σ) : Met l yJx29ce0_ordinal_8abf5 (.code yJx29ce0_ordinal_8abf5 cJx29ce0_ordinal_8abf5 1 (some .int) :: e_U) { frames := 40, cells := 0, slots := 0, locals := 400 } (e_Pre G ad σ [.ref (e_sd ad (100 + k))] sz) (e_Qr G ad σ sz (some (.int (Int32.ofNat k))) σ) 0 0 (va_A (e_w G ad σ) sz) := by
  refine va_MetF (cc := cJx29ce0_ordinal_8abf5) (maxL := 1) (ret := some .int) (by decide) rfl ?_
  intro p e s m args below meth c s₁ B hml hv
  obtain ⟨rfl, rfl, hP, hK, hD0, SS⟩ := hv
  have hx := B.exec
  have hb := B.bytes
  have hr := B.returns
  have hts := atoms_spec (ws := .code yJx29ce0_ordinal_8abf5 cJx29ce0_ordinal_8abf5 1 (some .int) :: e_U) B.pre
  have hown : s.vm.findClass "java/lang/Enum" = some m.cls := findClass_of_methodNamed B.named
  have hlocks := B.notSynchronized
  have hD := hD0.self (sz := s.heap.size)
  have hS : va_S (va_A (e_w G ad σ) s.heap.size) s.heap s.heap [] := va_S.rf
  have hl := lv_entry ([.ref (e_sd ad (100 + k))]) (n := 1) (Nat.le_of_ble_eq_true rfl)
  rw [lg_entry_eq]
  generalize (lg_sl ([.ref (e_sd ad (100 + k))]) ++ List.replicate (1 - (lg_sl ([.ref (e_sd ad (100 + k))])).length) Slot.unset).toArray = ls at hl ⊢
  have hl : lv_has ls 1 [(0, .ref (e_sd ad (100 + k)))] := hl
  refine lv_aload_n hx hb e_od0 rfl (lv_at hl 0 rfl) ?_
  obtain ⟨cf, k9, fi, f, cell, h1, h2, h3, h4, h5, h6⟩ := (SS.2.2.2.1 k hk).2.2.2
  refine W.getf hx hb hown (hts _ (List.mem_cons_of_mem _ e_w_of)) h1 h2 h3 h4 (v := .int (Int32.ofNat k)) h5 rfl rfl e_od1 ?_
  exact W.iret hx hb hr (fun t ht hW => ⟨⟨ad, _, rfl, rfl, fun a _ => rfl, by rw [ht]; exact hP, hD, hw⟩, hS.F ht⟩) hS.2.2 e_od4
theorem e_s_call {n idx : Nat} {ig : Instr} {HK : Nat → e_S → e_X} (C : e_Cx p l R s m args meth c mi d G ad0 σ0 A r) (ih : e_Gl p l e R s m args below meth c Q mi d G ad0 σ0 A r n) (th : e_Th p l e R s m args below meth c Q mi G ad0 σ0 A r)
    (I : e_Iv G ad0 σ0 A s ad σ H locs cells slots) (hL : e_LR σ.1 ad ls LS (e_mL mi)) (hS : e_SR σ.1 ad st ST) (hig : (ig = .invokestatic idx ∧ HK = e_H (e_run (e_E d) mi n) mi pc ls) ∨ (ig = .invokevirtual idx ∧ HK = e_H (e_run (e_E d) mi n) mi pc ls) ∨ (ig = .invokespecial idx ∧ HK = fun _ _ => none))
    (hd : decode (e_cb mi) pc = .ok (ig, 3)) (hr2 : e_row2 mi (pc, ig, len, tgt) = true) (hr3 : e_row3 mi (pc, ig, len, tgt) = true)
    (h : e_call (e_E d) mi (e_run (e_E d) mi n) pc 3 ls st σ idx HK = some r) : W p l e R s m args below meth c H locs cells slots Q (F0 m pc LS ST) := by
  obtain ⟨F, KS, SS, hCon, hR, hRm, hmi, htb, hlt⟩ := id C
  obtain ⟨X, hag, hl0, hc, hs⟩ := id I
  obtain ⟨hx, hb, hml, hown, hts, hlk, hnm, hrt, ho⟩ := id F
  have hsz := e_LS_size hL
  have hwS := e_SR_cat hS
  unfold e_call at h
  cases hq : e_look (e_mr (e_own mi)) idx with
  | none => rw [hq] at h; cases h
  | some q =>
    obtain ⟨y, rc, np, rk⟩ := q
    rw [hq] at h
    dsimp only at h
    have hsp := e_mr_sp ho hq
    have hroom : ∀ {pc' : Nat} {ls' st' : List Value}, e_run (e_E d) mi n pc' ls' st' σ = some r → cells ≤ R.cells ∧ slots ≤ R.slots := fun h => by
      have h1 := e_le_run (e_Em_E d) _ _ _ _ _ _ _ h
      have a1 : e_c σ ≤ e_c r.2 := h1.2.1
      have a2 : e_s σ ≤ e_s r.2 := h1.2.2.1
      have b1 := hRm.1; have b2 := hRm.2
      exact ⟨by omega, by omega⟩
    by_cases hy : y < 9000
    · rw [e_beq_f (show y ≠ 9000 by omega), e_beq_f (show y ≠ 9002 by omega), e_beq_f (show y ≠ 9003 by omega), e_beq_f (show y ≠ 9004 by omega), e_beq_f (show y ≠ 9001 by omega)] at h
      simp only [cond_false] at h
      rcases hig with ⟨rfl, hH⟩ | ⟨rfl, hH⟩ | ⟨rfl, hH⟩
      · unfold e_row2 at hr2; dsimp only at hr2; rw [hq] at hr2
        unfold e_row3 at hr3; dsimp only at hr3; rw [hq] at hr3
        dsimp only at hr2 hr3
        rw [e_beq_f (show y ≠ 9002 by omega), e_beq_f (show y ≠ 9003 by omega), e_beq_f (show y ≠ 9001 by omega)] at hr2
        simp only [Bool.or_eq_true, Bool.and_eq_true, Bool.or_false, decide_eq_true_eq] at hr2 hr3
        refine e_s_inv C ih th I hL hS hq hy (Or.inl ⟨rfl, Nat.eq_of_beq_eq_true hr2.2⟩) (fun _ => ?_) hd (Or.inl hH) h
        rcases hr3 with z | z
        · exact absurd (Nat.le_of_ble_eq_true z) (by omega)
        · exact z
      · unfold e_row2 at hr2; dsimp only at hr2; rw [hq] at hr2
        dsimp only at hr2
        rw [e_beq_f (show y ≠ 9004 by omega)] at hr2
        simp only [Bool.and_eq_true, Bool.or_false, decide_eq_true_eq] at hr2
        obtain ⟨⟨⟨-, g1⟩, g2⟩, g3⟩ := hr2
        have hrc : rc ≠ 0 := by have := Nat.le_of_ble_eq_true g1; omega
        exact e_s_inv C ih th I hL hS hq hy (Or.inr (Or.inl ⟨rfl, hrc, g2, List.isEmpty_iff.mp g3⟩)) (fun z => absurd z hrc) hd (Or.inl hH) h
      · unfold e_row2 at hr2; dsimp only at hr2; rw [hq] at hr2
        dsimp only at hr2
        rw [e_beq_f (show y ≠ 9000 by omega)] at hr2
        simp only [Bool.and_eq_true, Bool.or_false, decide_eq_true_eq] at hr2
        obtain ⟨⟨⟨⟨-, g1⟩, g2⟩, g3⟩, g4⟩ := hr2
        have hrc : rc ≠ 0 := by have := Nat.le_of_ble_eq_true g1; omega
        exact e_s_inv C ih th I hL hS hq hy (Or.inr (Or.inr ⟨rfl, hrc, g2, List.isEmpty_iff.mp g3, Option.isNone_iff_eq_none.mp g4, hH⟩)) (fun z => absurd z hrc) hd (Or.inr hH) h
    · have hyv : (ig = .invokestatic idx ∧ (y = 9001 ∨ y = 9002 ∨ y = 9003)) ∨ (ig = .invokevirtual idx ∧ y = 9004) ∨ (ig = .invokespecial idx ∧ y = 9000) := by
        have hb0 : Nat.blt y 9000 = false := by
          cases hz : Nat.blt y 9000 with
          | false => rfl
          | true => exact absurd (Nat.le_of_ble_eq_true hz) (by omega)
        rcases hig with ⟨rfl, hH⟩ | ⟨rfl, hH⟩ | ⟨rfl, hH⟩ <;> (unfold e_row2 at hr2; dsimp only at hr2; rw [hq] at hr2; dsimp only at hr2; rw [hb0] at hr2; simp only [Bool.false_and, Bool.false_or, Bool.or_eq_true] at hr2)
        · left
          refine ⟨rfl, ?_⟩
          rcases hr2 with (z | z) | z
          · exact Or.inl (Nat.eq_of_beq_eq_true z)
          · exact Or.inr (Or.inl (Nat.eq_of_beq_eq_true z))
          · exact Or.inr (Or.inr (Nat.eq_of_beq_eq_true z))
        · exact Or.inr (Or.inl ⟨rfl, Nat.eq_of_beq_eq_true hr2⟩)
        · exact Or.inr (Or.inr ⟨rfl, Nat.eq_of_beq_eq_true hr2⟩)
      rcases hyv with ⟨rfl, rfl | rfl | rfl⟩ | ⟨rfl, rfl⟩ | ⟨rfl, rfl⟩
      · -- arraycopy
        replace h : e_g9 st (match st with | .int n' :: .int dp :: .ref b :: .int sp :: .ref a :: r' => e_cp σ a sp b dp n' (fun σ => e_run (e_E d) mi n (pc + 3) ls r' σ) | _ => none) = some r := h
        unfold e_g9 at h
        split at h
        · rename_i hw9
          split at h
          · rename_i n' dp b sp a r'
            obtain ⟨w1, rfl, hS1⟩ := e_SR_int hS
            obtain ⟨w2, rfl, hS2⟩ := e_SR_int hS1
            unfold e_cp at h
            split at h
            · rename_i hk
              obtain ⟨k1, k2, h1, h2, h3, h4, h5⟩ := hk
              obtain ⟨a1, a2, a3⟩ := e_k_inv k1 (by omega)
              obtain ⟨b1, b2, b3⟩ := e_k_inv k2 (by omega)
              obtain ⟨w3, rfl, -, hS3⟩ := e_SR_refv (by omega) hS2
              obtain ⟨w4, rfl, hS4⟩ := e_SR_int hS3
              obtain ⟨w5, rfl, -, hS5⟩ := e_SR_refv (by omega) hS4
              obtain ⟨hK, hP, hD, hSv, hw, hA⟩ := id X
              have ea := e_w_at (G := G) (ad := ad) a1 a2
              rw [e_en_20 a3] at ea
              have eb := e_w_at (G := G) (ad := ad) b1 b2
              rw [e_en_20 b3] at eb
              have hcat := e_SR_cat hS5
              simp only [List.map_cons, List.sum_cons] at hw9
              refine va_copyi hx hb (by rw [hml, hsz]) hown (hts _ (hsp.2.1 rfl)) (hts _ e_w_an) (hts _ e_w_as) (hts _ e_w_si) hK hP hD hSv (a - 1) (b - 1) 0 0 ea eb rfl rfl rfl h1 h2 h3 h4 h5 (fun _ _ => rfl) (by omega) (by rw [show nativeFrameWords "java/lang/System" "arraycopy" 5 = 7 from rfl]; omega) hd (fun H1 locs1 q1 q2 q3 => ?_)
              rw [e_w_s20 (σ' := e_uR σ b (va_cpy (e_I σ a) (e_I σ b) sp.toNatClampNeg dp.toNatClampNeg n'.toNatClampNeg)) b1 b2 b3 rfl rfl (show _ = (if b = b then _ else _) by rw [if_pos rfl]) (fun z hz => e_en_uR hz)] at q1 q2
              exact ih _ _ _ _ _ _ _ _ _ _ _ h hL hS5 (e_Iv_same I (e_le_rf _) rfl rfl ⟨hK, q1, q2, q3, hw, hA⟩)
            · cases h
          · cases h
        · cases h
      · -- max
        replace h : e_g9 st (match st with | .int b :: .int a :: r' => e_run (e_E d) mi n (pc + 3) ls (.int (e_max a b) :: r') σ | _ => none) = some r := h
        unfold e_g9 at h
        split at h
        · rename_i hw9
          split at h
          · rename_i b a r'
            obtain ⟨w1, rfl, hS1⟩ := e_SR_int hS
            obtain ⟨w2, rfl, hS2⟩ := e_SR_int hS1
            have hcat := e_SR_cat hS2
            simp only [List.map_cons, List.sum_cons] at hw9
            exact va_mmax hx hb (by rw [hml, hsz]) hown (hts _ (hsp.2.2.1 rfl)) (hts _ e_w_maxs) (hts _ e_w_mi) (hts _ e_w_maxc) (by omega) (by omega) (hroom h).1 (hroom h).2 hd (ih _ _ _ _ _ _ _ _ _ _ _ h hL ⟨rfl, hS2⟩ I)
          · cases h
        · cases h
      · -- min
        replace h : e_g9 st (match st with | .int b :: .int a :: r' => e_run (e_E d) mi n (pc + 3) ls (.int (e_min a b) :: r') σ | _ => none) = some r := h
        unfold e_g9 at h
        split at h
        · rename_i hw9
          split at h
          · rename_i b a r'
            obtain ⟨w1, rfl, hS1⟩ := e_SR_int hS
            obtain ⟨w2, rfl, hS2⟩ := e_SR_int hS1
            have hcat := e_SR_cat hS2
            simp only [List.map_cons, List.sum_cons] at hw9
            exact va_mmin hx hb (by rw [hml, hsz]) hown (hts _ (hsp.2.2.2.1 rfl)) (hts _ e_w_mins) (hts _ e_w_mi) (hts _ e_w_minc) (by omega) (by omega) (hroom h).1 (hroom h).2 hd (ih _ _ _ _ _ _ _ _ _ _ _ h hL ⟨rfl, hS2⟩ I)
          · cases h
        · cases h
      · -- ordinal
        replace h : e_g9 st (match st with | .ref a :: r' => e_ord a (fun v => e_run (e_E d) mi n (pc + 3) ls (.int v :: r') σ) | _ => none) = some r := h
        unfold e_g9 at h
        split at h
        · rename_i hw9
          split at h
          · rename_i a r'
            unfold e_ord at h
            split at h
            · rename_i hk
              obtain ⟨c1, c2⟩ := hk
              obtain ⟨ws, rfl, hok, hr⟩ := e_SR_refv (by omega) hS
              obtain ⟨h7, rfl⟩ := hsp.2.2.2.2 rfl
              have hk17 : a - 1000100 < 17 := Nat.sub_lt_left_of_lt_add c1 c2
              have hcat := e_SR_cat hr
              simp only [List.map_cons, List.sum_cons, show (Value.ref a).category = 1 from rfl] at hw9
              have hwf : e_WF σ := X.2.2.2.2.1
              have hSv := X.2.2.2.1
              have ead : ad a = e_sd ad (100 + (a - 1000100)) := congrArg ad (show a = 1000000 + (100 + (a - 1000100)) by rw [← Nat.add_assoc]; exact (Nat.add_sub_cancel' c1).symm)
              have hM := e_ord_met l (G := G) (ad := ad) (σ := σ) (sz := H.size) hk17 hwf
              obtain ⟨cell, g1, g2, g3, -⟩ := (SS.2.2.2.1 (a - 1000100) hk17).1.kept hSv.2.1
              rw [← e_sd_eq hag, ← ead] at g1
              rw [← ead] at hM
              have hrun := va_runU (p := p) (l := l) (e := e) (below := below) (meth := meth) (locs := locs) (cells := cells) (slots := slots) (R := R) (rest := ws) (g := F0 m pc LS (.ref (ad a) :: ws)) (As := []) (C := "WhiteBoard$Word") (owner := "java/lang/Enum") (x := ⟨"WhiteBoard$Word", "ordinal", "()I"⟩) ⟨hx, hb, hml, hown, hts⟩ hM
                (va_cwU (ws' := e_U) 0 hts (e_good (fun w hw => by
                  rcases List.mem_append.mp hw with z | z
                  · simp only [List.mem_cons, List.not_mem_nil, or_false] at z
                    rcases z with rfl | rfl | rfl | rfl | rfl
                    · rw [h7]; exact e_w_ol
                    · exact e_w_om
                    · exact e_w_os
                    · exact e_w_on
                    · exact e_w_oe
                  · rcases List.mem_cons.mp z with rfl | z
                    · exact e_w_od
                    · exact z)) rfl rfl rfl rfl ⟨by decide, by decide, rfl⟩ ⟨by show 40 + 1 ≤ _; omega, by show 8 + (1 + 11) + 400 ≤ _; omega⟩)
                ⟨e_blind, ⟨cell, g1, g2, g3⟩, e_start X KS SS (e_sd_eq hag) hl0.2.2.2.1 hl0.2.2.2.2 _⟩ rfl rfl hsz rfl (by show 2 * 0 + _ ≤ 8; omega) hd ⟨(hroom h).1, (hroom h).2⟩
              refine e_callW hrun X (fun adf w H1 locs1 hvo hag1 hAt => ?_)
              exact ih (pc + 3) ls _ σ adf LS _ H1 locs1 _ _ h (e_LR_up (Nat.le_refl _) hag1 hL) (e_VO_SR hvo (e_SR_up (Nat.le_refl _) hag1 hr)) ⟨hAt, fun b hb => (hag1 b (e_ok_up hl0.1 hb)).trans (hag b hb), hl0, hc, hs⟩
            · cases h
          · cases h
        · cases h
      · -- Object's constructor
        replace h : e_g9 st (match st with | .ref a :: r' => (if a = 0 then none else e_run (e_E d) mi n (pc + 3) ls r' σ) | _ => none) = some r := h
        unfold e_g9 at h
        split at h
        · rename_i hw9
          split at h
          · rename_i a r'
            split at h
            · cases h
            · rename_i ha
              obtain ⟨ws, rfl, hok, hr⟩ := e_SR_refv ha hS
              have hcat := e_SR_cat hr
              simp only [List.map_cons, List.sum_cons] at hw9
              exact W.objInit hx hb hown (hts _ (hsp.1 rfl)) (hts _ e_w_oi) (hts _ e_w_oc) rfl (by rw [hml]; exact hsz) rfl hd (by omega) (by show 2 * 0 + _ + 12 ≤ _; omega) (ih _ _ _ _ _ _ _ _ _ _ _ h hL hr I)
          · cases h
        · cases h
end Sim6A
end EX6A
