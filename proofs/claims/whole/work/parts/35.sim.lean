section EX6
section Sim6
variable {p : Program} {l : Launch} {e : Env} {R : Room} {s : State} {m : MethodId} {args : Array Value} {below : List Frame} {meth : Method} {c : Code} {H : Heap} {locs : List Loc} {cells slots : Nat} {Q : State → Prop}
variable {mi d pc len tgt : Nat} {LS : Array Slot} {ad ad0 : Nat → Nat} {σ σ0 : e_S} {G : e_G} {A : Nat → Prop} {ls st ST : List Value} {r : e_O × e_S}
theorem e_sd_at (hag : ∀ a, e_ok σ0.1 a → ad a = ad0 a) {a k : Nat} (h : a = 1000000 + k) : ad a = e_sd ad0 k := by
  rw [hag a (Or.inr (by omega)), h]; rfl
theorem e_row_of (F : e_Fix p s m args meth c mi) {idx q : Nat} {C n d : String} {v : Value} {ws : List Value} (hl : Cond.fieldLink (e_on (e_own mi)) idx C n d ∈ e_U) (hO : va_OF C n d v q A s s.heap) (hSv : va_S A s.heap H locs) (hd : decode (e_cb mi) pc = .ok (.getfield idx, 3))
    (kk : W p l e R s m args below meth c H locs cells slots Q (F0 m (pc + 3) LS (v :: ws))) : W p l e R s m args below meth c H locs cells slots Q (F0 m pc LS (.ref q :: ws)) := by
  obtain ⟨hx, hb, hml, hown, hts, -, -, -, ho⟩ := F
  obtain ⟨cf, k, fi, f, cell, h1, h2, h3, h4, h5, h6⟩ := hO.kept hSv.2.1
  exact W.getf hx hb hown (hts _ hl) h1 h2 h3 h4 (v := v) h5 rfl rfl hd kk
/-- a field of a constant -/
theorem e_s_gsf {n idx kd k ty : Nat} (C : e_Cx p l R s m args meth c mi d G ad0 σ0 A r) (ih : e_Gl p l e R s m args below meth c Q mi d G ad0 σ0 A r n) (I : e_Iv G ad0 σ0 A s ad σ H locs cells slots) (hL : e_LR σ.1 ad ls LS (e_mL mi)) (hS : e_SR σ.1 ad st ST)
    (hd : decode (e_cb mi) pc = .ok (.getfield idx, 3)) (hlk : e_look (e_fr (e_own mi)) idx = some (kd, k, ty)) (hty : ty = 7 ∨ ty = 8)
    (h : e_get σ kd k ty st (fun st => e_run (e_E d) mi n (pc + 3) ls st σ) = some r) : W p l e R s m args below meth c H locs cells slots Q (F0 m pc LS ST) := by
  obtain ⟨F, KS, SS, -⟩ := id C
  obtain ⟨X, hag, -⟩ := id I
  have ho : e_own mi < 21 := F.2.2.2.2.2.2.2.2
  have hSv := X.2.2.2.1
  obtain ⟨S1, S2, S3, S4, S5, S6, S7, -⟩ := SS
  unfold e_get at h
  split at h
  · rename_i a r'
    rcases hty with rfl | rfl
    · replace h : e_gsF kd k a (fun x => e_run (e_E d) mi n (pc + 3) ls (.ref x :: r') σ) = some r := h
      unfold e_gsF at h
      split at h
      · rename_i hc
        obtain ⟨rfl, rfl, c1, c2⟩ := hc
        obtain ⟨C1, n1, d1, hq, hl⟩ := e_sf_ok ho hlk (by omega)
        cases hq
        obtain ⟨ws, rfl, hok, hr⟩ := e_SR_refv (by omega) hS
        rw [e_sd_at hag (k := 100 + (a - 1000100)) (by omega)]
        exact e_row_of F hl (S4 (a - 1000100) (by omega)).2.1 hSv hd (ih _ _ _ _ _ _ _ _ _ _ _ h hL ⟨Or.inr ⟨Or.inr (by omega), by rw [e_sd_at hag (k := 200 + (a - 1000100)) (by omega)]⟩, hr⟩ I)
      · split at h
        · rename_i hc
          obtain ⟨rfl, rfl, c1, c2⟩ := hc
          obtain ⟨C1, n1, d1, hq, hl⟩ := e_sf_ok ho hlk (by omega)
          cases hq
          obtain ⟨ws, rfl, hok, hr⟩ := e_SR_refv (by omega) hS
          rw [e_sd_at hag (k := 200 + (a - 1000200)) (by omega)]
          exact e_row_of F hl (S5 (a - 1000200) (by omega)).2.1 hSv hd (ih _ _ _ _ _ _ _ _ _ _ _ h hL ⟨Or.inr ⟨Or.inr (by omega), by rw [e_sd_at hag (k := 300 + (a - 1000200)) (by omega)]⟩, hr⟩ I)
        · cases h
    · replace h : e_gsI kd k a (fun x => e_run (e_E d) mi n (pc + 3) ls (.int x :: r') σ) = some r := h
      unfold e_gsI at h
      split at h
      · rename_i hc
        obtain ⟨rfl, rfl, c1, c2⟩ := hc
        obtain ⟨C1, n1, d1, hq, hl⟩ := e_sf_ok ho hlk (by omega)
        cases hq
        obtain ⟨ws, rfl, hok, hr⟩ := e_SR_refv (by omega) hS
        rw [e_sd_at hag (k := 100 + (a - 1000100)) (by omega)]
        exact e_row_of F hl (S4 (a - 1000100) (by omega)).2.2.1 hSv hd (ih _ _ _ _ _ _ _ _ _ _ _ h hL ⟨rfl, hr⟩ I)
      · split at h
        · rename_i hc
          obtain ⟨rfl, rfl, c1, c2⟩ := hc
          obtain ⟨C1, n1, d1, hq, hl⟩ := e_sf_ok ho hlk (by omega)
          cases hq
          obtain ⟨ws, rfl, hok, hr⟩ := e_SR_refv (by omega) hS
          rw [e_sd_at hag (k := 200 + (a - 1000200)) (by omega)]
          exact e_row_of F hl (S5 (a - 1000200) (by omega)).2.2 hSv hd (ih _ _ _ _ _ _ _ _ _ _ _ h hL ⟨rfl, hr⟩ I)
        · split at h
          · rename_i hc
            obtain ⟨rfl, rfl, c1, c2⟩ := hc
            obtain ⟨C1, n1, d1, hq, hl⟩ := e_sf_ok ho hlk (by omega)
            cases hq
            obtain ⟨ws, rfl, hok, hr⟩ := e_SR_refv (by omega) hS
            rw [e_sd_at hag (k := 100 + (a - 1000100)) (by omega)]
            exact e_row_of F hl (S4 (a - 1000100) (by omega)).2.2.2 hSv hd (ih _ _ _ _ _ _ _ _ _ _ _ h hL ⟨rfl, hr⟩ I)
          · cases h
  · cases h
/-- a static field -/
theorem e_s_gst {n idx : Nat} {v : Value} (C : e_Cx p l R s m args meth c mi d G ad0 σ0 A r) (ih : e_Gl p l e R s m args below meth c Q mi d G ad0 σ0 A r n) (I : e_Iv G ad0 σ0 A s ad σ H locs cells slots) (hL : e_LR σ.1 ad ls LS (e_mL mi)) (hS : e_SR σ.1 ad st ST)
    (hd : decode (e_cb mi) pc = .ok (.getstatic idx, 3)) (hlk : e_look (e_gst (e_own mi)) idx = some v) (h : e_run (e_E d) mi n (pc + 3) ls (v :: st) σ = some r) : W p l e R s m args below meth c H locs cells slots Q (F0 m pc LS ST) := by
  obtain ⟨F, KS, SS, -⟩ := id C
  obtain ⟨X, hag, -⟩ := id I
  obtain ⟨hx, hb, hml, hown, hts, -, -, -, ho⟩ := F
  have hSv := X.2.2.2.1
  obtain ⟨S1, S2, S3, S4, S5, S6, S7, S8, S9, S10, S11, S12, -⟩ := SS
  obtain ⟨C1, n1, d1, hq, hl⟩ := e_gs_ok ho hlk
  have row : ∀ w, va_Z C1 n1 d1 w A s s.heap → e_VR σ.1 ad v w → W p l e R s m args below meth c H locs cells slots Q (F0 m pc LS ST) := fun w hZ hv =>
    va_gets hx hb hZ hSv hown (hts _ hl) (fun _ h9 => h9) hd (ih _ _ _ _ _ _ _ _ _ _ _ h hL ⟨hv, hS⟩ I)
  cases v with
  | ref a0 =>
    obtain ⟨a, rfl⟩ : ∃ a : Nat, a = a0 := ⟨a0, rfl⟩
    replace hq : (if a = 1000002 then some ("WhiteBoard$Tokens", "WORDS", "[LWhiteBoard$Word;") else if a = 1000001 then some ("WhiteBoard$1", "$SwitchMap$WhiteBoard$Word", "[I") else if 1000100 ≤ a ∧ a < 1000117 then some ("WhiteBoard$Word", e_wn.getD (a - 1000100) "", "LWhiteBoard$Word;") else none) = some (C1, n1, d1) := hq
    by_cases h1 : a = 1000002
    · rw [if_pos h1, Option.some.injEq, Prod.mk.injEq, Prod.mk.injEq] at hq
      obtain ⟨rfl, rfl, rfl⟩ := hq
      exact row _ S8 (Or.inr ⟨Or.inr (by omega), by rw [e_sd_at hag (k := 2) (by omega)]⟩)
    · rw [if_neg h1] at hq
      by_cases h2 : a = 1000001
      · rw [if_pos h2, Option.some.injEq, Prod.mk.injEq, Prod.mk.injEq] at hq
        obtain ⟨rfl, rfl, rfl⟩ := hq
        exact row _ S9 (Or.inr ⟨Or.inr (by omega), by rw [e_sd_at hag (k := 1) (by omega)]⟩)
      · rw [if_neg h2] at hq
        by_cases h3 : 1000100 ≤ a ∧ a < 1000117
        · rw [if_pos h3, Option.some.injEq, Prod.mk.injEq, Prod.mk.injEq] at hq
          obtain ⟨rfl, rfl, rfl⟩ := hq
          exact row _ (S10 (a - 1000100) (by omega)) (Or.inr ⟨Or.inr (by omega), by rw [e_sd_at hag (k := 100 + (a - 1000100)) (by omega)]⟩)
        · rw [if_neg h3] at hq
          cases hq
  | int x =>
    replace hq : (if x = 1 then some ("java/lang/String", "COMPACT_STRINGS", "Z") else none) = some (C1, n1, d1) := hq
    by_cases h1 : x = 1
    · rw [if_pos h1, Option.some.injEq, Prod.mk.injEq, Prod.mk.injEq] at hq
      obtain ⟨rfl, rfl, rfl⟩ := hq
      exact row _ S11 (by rw [h1]; exact rfl)
    · rw [if_neg h1] at hq
      cases hq
  | null =>
    replace hq : some ("jdk/internal/util/Preconditions", "SIOOBE_FORMATTER", "Ljava/util/function/BiFunction;") = some (C1, n1, d1) := hq
    rw [Option.some.injEq, Prod.mk.injEq, Prod.mk.injEq] at hq
    obtain ⟨rfl, rfl, rfl⟩ := hq
    rcases S12 with hZ | ⟨t, hZ⟩
    · exact row _ hZ (Or.inl rfl)
    · exact row _ hZ (Or.inr ⟨t, rfl⟩)
  | long x => cases hq
  | float x => cases hq
  | double x => cases hq
  | retAddr x => cases hq
/-- a place of the row of words -/
theorem e_s_qst {n a : Nat} {i : Int32} {r' : List Value} (C : e_Cx p l R s m args meth c mi d G ad0 σ0 A r) (ih : e_Gl p l e R s m args below meth c Q mi d G ad0 σ0 A r n) (I : e_Iv G ad0 σ0 A s ad σ H locs cells slots) (hL : e_LR σ.1 ad ls LS (e_mL mi)) (hS : e_SR σ.1 ad (.int i :: .ref a :: r') ST)
    (hd : decode (e_cb mi) pc = .ok (.aaload, 1)) (ha : a = 1000002) (hi : ¬ (i < 0 ∨ 17 ≤ i.toNatClampNeg)) (h : e_run (e_E d) mi n (pc + 1) ls (.ref (1000100 + i.toNatClampNeg) :: r') σ = some r) : W p l e R s m args below meth c H locs cells slots Q (F0 m pc LS ST) := by
  obtain ⟨F, KS, SS, -⟩ := id C
  obtain ⟨X, hag, -⟩ := id I
  obtain ⟨hx, hb, -⟩ := F
  have hSv := X.2.2.2.1
  obtain ⟨w1, rfl, hS1⟩ := e_SR_int hS
  obtain ⟨ws, rfl, hok, hr⟩ := e_SR_refv (by omega) hS1
  obtain ⟨cell, h1, h2, h3, h4, h5, h6, h7⟩ := SS.2.2.1.kept hSv.2.1
  have hlt : i.toNatClampNeg < 17 := by omega
  rw [e_sd_at hag (k := 2) (by omega)]
  refine W.aald (v := .ref (e_sd ad0 (100 + i.toNatClampNeg))) (ty := .object "WhiteBoard$Word") hx hb h1 h2 rfl h3 (fun q => ?_) (h6 _ hlt) rfl rfl hd (ih _ _ _ _ _ _ _ _ _ _ _ h hL ⟨Or.inr ⟨Or.inr (by omega), by rw [e_sd_at hag (k := 100 + i.toNatClampNeg) (by omega)]⟩, hr⟩ I)
  rcases q with q | q
  · exact hi (Or.inl q)
  · omega
/-- two words compared -/
theorem e_s_acmp {n x y : Nat} {cc : ACond} {off : Int} {r' : List Value} (C : e_Cx p l R s m args meth c mi d G ad0 σ0 A r) (ih : e_Gl p l e R s m args below meth c Q mi d G ad0 σ0 A r n) (I : e_Iv G ad0 σ0 A s ad σ H locs cells slots) (hL : e_LR σ.1 ad ls LS (e_mL mi)) (hS : e_SR σ.1 ad (.ref y :: .ref x :: r') ST)
    (hd : decode (e_cb mi) pc = .ok (.if_acmp cc off, 3)) (ht : e_tg pc tgt (.if_acmp cc off) = true) (h : e_ac x y (fun b => if (match cc with | .eq => b | .ne => !b) = true then e_run (e_E d) mi n tgt ls r' σ else e_run (e_E d) mi n (pc + 3) ls r' σ) = some r) : W p l e R s m args below meth c H locs cells slots Q (F0 m pc LS ST) := by
  obtain ⟨F, KS, SS, -⟩ := id C
  obtain ⟨X, hag, -⟩ := id I
  obtain ⟨hx, hb, -⟩ := F
  have S7 := SS.2.2.2.2.2.2.1
  unfold e_ac at h
  split at h
  · rename_i hxy
    obtain ⟨w1, v1, rfl, hy1, hS1⟩ := e_SR_ref hS
    obtain ⟨w2, v2, rfl, hx1, hr⟩ := e_SR_ref hS1
    have ht' := of_decide_eq_true ht
    have ey : w1 = va_rf (e_qo ad y) := by
      unfold e_qo
      rcases hy1 with ⟨q, rfl⟩ | ⟨q, rfl⟩
      · rw [if_pos q]; rfl
      · rw [if_neg (e_ok_ne q)]; rfl
    have ex : w2 = va_rf (e_qo ad x) := by
      unfold e_qo
      rcases hx1 with ⟨q, rfl⟩ | ⟨q, rfl⟩
      · rw [if_pos q]; rfl
      · rw [if_neg (e_ok_ne q)]; rfl
    have hiff : e_qo ad x = e_qo ad y ↔ x = y := by
      refine ⟨fun q => ?_, fun q => by rw [q]⟩
      unfold e_qo at q
      rcases hxy with ⟨hx2 | hx2, hy2 | hy2⟩
      · omega
      · rw [if_pos hx2, if_neg (by omega)] at q; cases q
      · rw [if_neg (by omega), if_pos hy2] at q; cases q
      · rw [if_neg (by omega), if_neg (by omega), e_sd_at hag (k := 100 + (x - 1000100)) (by omega), e_sd_at hag (k := 100 + (y - 1000100)) (by omega)] at q
        have := S7 (x - 1000100) (y - 1000100) (by omega) (by omega) (Option.some.inj q)
        omega
    rw [ey, ex]
    cases cc with
    | eq =>
      refine lv_acmp_eq hx hb hd ht' (fun q => ?_) (fun q => ?_)
      · rw [hiff] at q
        simp only [q, decide_true, if_true] at h
        exact ih _ _ _ _ _ _ _ _ _ _ _ h hL hr I
      · rw [hiff] at q
        simp only [q, decide_false, Bool.false_eq_true, if_false] at h
        exact ih _ _ _ _ _ _ _ _ _ _ _ h hL hr I
    | ne =>
      refine lv_acmp_ne hx hb hd ht' (fun q => ?_) (fun q => ?_)
      · rw [hiff] at q
        simp only [q, decide_false, Bool.not_false, if_true] at h
        exact ih _ _ _ _ _ _ _ _ _ _ _ h hL hr I
      · rw [hiff] at q
        simp only [q, decide_true, Bool.not_true, Bool.false_eq_true, if_false] at h
        exact ih _ _ _ _ _ _ _ _ _ _ _ h hL hr I
  · cases h
end Sim6
end EX6
