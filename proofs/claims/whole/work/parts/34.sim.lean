section EX5
section Sim5
variable {p : Program} {l : Launch} {e : Env} {R : Room} {s : State} {m : MethodId} {args : Array Value} {below : List Frame} {meth : Method} {c : Code} {H : Heap} {locs : List Loc} {cells slots : Nat} {Q : State → Prop}
variable {mi d pc len tgt : Nat} {LS : Array Slot} {ad ad0 : Nat → Nat} {σ σ0 : e_S} {G : e_G} {A : Nat → Prop} {ls st ST : List Value} {r : e_O × e_S}
theorem e_s_ald {n a : Nat} {r' : List Value} (C : e_Cx p l R s m args meth c mi d G ad0 σ0 A r) (ih : e_Gl p l e R s m args below meth c Q mi d G ad0 σ0 A r n) (I : e_Iv G ad0 σ0 A s ad σ H locs cells slots) (hL : e_LR σ.1 ad ls LS (e_mL mi)) (hS : e_SR σ.1 ad (.ref a :: r') ST)
    (hd : decode (e_cb mi) pc = .ok (.arraylength, 1)) (h : e_al σ a (fun v => e_run (e_E d) mi n (pc + 1) ls (.int v :: r') σ) = some r) : W p l e R s m args below meth c H locs cells slots Q (F0 m pc LS ST) := by
  obtain ⟨F, KS, SS, -⟩ := id C
  obtain ⟨X, hag, -⟩ := id I
  have hSv := X.2.2.2.1
  unfold e_al at h
  split at h
  · rename_i hk
    have hk3 := e_kind X (c := e_k σ a) rfl (by omega)
    obtain ⟨a1, a2, a3⟩ := e_k_inv (c := e_k σ a) rfl (by omega)
    obtain ⟨ws, rfl, hok, hr⟩ := e_SR_refv (by omega) hS
    exact e_s_alen F X hd hk (by omega) (ih _ _ _ _ _ _ _ _ _ _ _ h hL ⟨rfl, hr⟩ I)
  · obtain ⟨hx, hb, -⟩ := F
    unfold e_sl at h
    have fin : ∀ (k nn : Nat) (ty : FieldType) (f : Nat → Value), a = 1000000 + k → va_T ty (e_sd ad0 k) nn f A s s.heap → e_run (e_E d) mi n (pc + 1) ls (.int (Int32.ofNat nn) :: r') σ = some r → W p l e R s m args below meth c H locs cells slots Q (F0 m pc LS ST) := by
      intro k nn ty f ha hT hrun
      obtain ⟨ws, rfl, hok, hr⟩ := e_SR_refv (show a ≠ 0 by omega) hS
      rw [show ad a = e_sd ad0 k by rw [hag a (Or.inr (by omega)), ha]; rfl]
      exact va_tlen hx hb hT hSv rfl hd (ih _ _ _ _ _ _ _ _ _ _ _ hrun hL ⟨rfl, hr⟩ I)
    split at h
    · rename_i ha
      have hxl : e_xl σ = e_xl σ0 := I.2.2.1.2.2.2.1
      simp only [Option.bind_some] at h
      rw [hxl] at h
      exact fin 0 _ _ _ ha SS.1 h
    · split at h
      · rename_i ha
        simp only [Option.bind_some] at h
        exact fin 1 _ _ _ ha SS.2.1 h
      · split at h
        · rename_i ha
          simp only [Option.bind_some] at h
          exact fin 2 _ _ _ ha SS.2.2.1 h
        · split at h
          · rename_i ha
            simp only [Option.bind_some] at h
            exact fin (300 + (a - 1000300)) _ _ _ (by omega) (SS.2.2.2.2.2.1 (a - 1000300) (by omega)) h
          · cases h
theorem e_s_iad {n a : Nat} {i : Int32} {r' : List Value} (C : e_Cx p l R s m args meth c mi d G ad0 σ0 A r) (ih : e_Gl p l e R s m args below meth c Q mi d G ad0 σ0 A r n) (I : e_Iv G ad0 σ0 A s ad σ H locs cells slots) (hL : e_LR σ.1 ad ls LS (e_mL mi)) (hS : e_SR σ.1 ad (.int i :: .ref a :: r') ST)
    (hd : decode (e_cb mi) pc = .ok (.iaload, 1)) (h : e_ia σ a i (fun v => e_run (e_E d) mi n (pc + 1) ls (.int v :: r') σ) = some r) : W p l e R s m args below meth c H locs cells slots Q (F0 m pc LS ST) := by
  obtain ⟨F, KS, SS, -⟩ := id C
  obtain ⟨X, hag, -⟩ := id I
  have hSv := X.2.2.2.1
  obtain ⟨w1, rfl, hS1⟩ := e_SR_int hS
  unfold e_ia at h
  split at h
  · rename_i hk
    obtain ⟨a1, a2, a3⟩ := e_k_inv hk (by omega)
    obtain ⟨ws, rfl, hok, hr⟩ := e_SR_refv (by omega) hS1
    split at h
    · cases h
    · rename_i hi
      exact e_s_ia F X hd hk hi (ih _ _ _ _ _ _ _ _ _ _ _ h hL ⟨rfl, hr⟩ I)
  · obtain ⟨hx, hb, -⟩ := F
    unfold e_sa at h
    split at h
    · rename_i ha
      replace ha : a = 1000000 := ha
      have hxl : e_xl σ = e_xl σ0 := I.2.2.1.2.2.2.1
      have hxs : e_xs σ = e_xs σ0 := I.2.2.1.2.2.2.2
      simp only [Option.bind_some] at h
      obtain ⟨ws, rfl, hok, hr⟩ := e_SR_refv (by omega) hS1
      split at h
      · cases h
      · rename_i hi
        rw [show ad a = e_sd ad0 0 by rw [hag a (Or.inr (by omega)), ha]; rfl]
        rw [hxl] at hi
        refine va_ti hx hb SS.1 hSv hi rfl hd (ih _ _ _ _ _ _ _ _ _ _ _ h hL ⟨?_, hr⟩ I)
        show Value.int _ = Value.int _
        rw [hxs]
    · split at h
      · rename_i ha
        simp only [Option.bind_some] at h
        obtain ⟨ws, rfl, hok, hr⟩ := e_SR_refv (by omega) hS1
        split at h
        · cases h
        · rename_i hi
          rw [show ad a = e_sd ad0 1 by rw [hag a (Or.inr (by omega)), ha]; rfl]
          exact va_ti hx hb SS.2.1 hSv hi rfl hd (ih _ _ _ _ _ _ _ _ _ _ _ h hL ⟨rfl, hr⟩ I)
      · cases h
theorem e_s_zad {n a : Nat} {i : Int32} {r' : List Value} (C : e_Cx p l R s m args meth c mi d G ad0 σ0 A r) (ih : e_Gl p l e R s m args below meth c Q mi d G ad0 σ0 A r n) (I : e_Iv G ad0 σ0 A s ad σ H locs cells slots) (hL : e_LR σ.1 ad ls LS (e_mL mi)) (hS : e_SR σ.1 ad (.int i :: .ref a :: r') ST)
    (hd : decode (e_cb mi) pc = .ok (.baload, 1)) (h : e_za σ a i (fun v => e_run (e_E d) mi n (pc + 1) ls (.int v :: r') σ) = some r) : W p l e R s m args below meth c H locs cells slots Q (F0 m pc LS ST) := by
  obtain ⟨F, KS, SS, -⟩ := id C
  obtain ⟨X, hag, -⟩ := id I
  have hSv := X.2.2.2.1
  obtain ⟨w1, rfl, hS1⟩ := e_SR_int hS
  unfold e_za at h
  split at h
  · rename_i hk
    obtain ⟨a1, a2, a3⟩ := e_k_inv hk (by omega)
    obtain ⟨ws, rfl, hok, hr⟩ := e_SR_refv (by omega) hS1
    split at h
    · cases h
    · rename_i hi
      exact e_s_za F X hd hk hi (ih _ _ _ _ _ _ _ _ _ _ _ h hL ⟨rfl, hr⟩ I)
  · split at h
    · rename_i ha
      obtain ⟨hx, hb, -⟩ := F
      obtain ⟨ws, rfl, hok, hr⟩ := e_SR_refv (by omega) hS1
      split at h
      · cases h
      · rename_i hi
        rw [show ad a = e_sd ad0 (300 + (a - 1000300)) by
          rw [hag a (Or.inr (by omega))]
          exact congrArg ad0 (show a = 1000000 + (300 + (a - 1000300)) by omega)]
        exact va_tb hx hb (SS.2.2.2.2.2.1 (a - 1000300) (by omega)) hSv hi rfl hd (ih _ _ _ _ _ _ _ _ _ _ _ h hL ⟨rfl, hr⟩ I)
    · cases h
end Sim5
end EX5
