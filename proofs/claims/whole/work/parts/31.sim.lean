section EX2
section Sim2
variable {p : Program} {l : Launch} {e : Env} {R : Room} {s : State} {m : MethodId} {args : Array Value} {below : List Frame} {meth : Method} {c : Code} {H : Heap} {locs : List Loc} {cells slots : Nat} {Q : State → Prop}
variable {mi d pc : Nat} {LS : Array Slot} {ad ad0 : Nat → Nat} {σ σ0 : e_S} {G : e_G} {A : Nat → Prop} {ls st ST : List Value} {r : e_O × e_S}
theorem e_sd_eq (hag : ∀ a, e_ok σ0.1 a → ad a = ad0 a) : e_sd ad = e_sd ad0 := funext fun k => hag _ (Or.inr (by omega))
/-- the receiver of a call -/
theorem e_recv {rc o : Nat} {cn : String} (X : e_At G ad σ A s H locs) (hag : ∀ a, e_ok σ0.1 a → ad a = ad0 a) (SS : e_SS (e_sd ad0) (e_xl σ0) (e_xs σ0) A s s.heap) (hok : e_okr σ rc o = true) (h0 : rc ≠ 0) (hcn : (rc = 41 ∧ cn = "java/lang/String") ∨ (rc ≠ 41 ∧ ∃ q : vw_C, vwCl[rc - 1]? = some q ∧ q.1 = cn)) : o ≠ 0 ∧ ∃ cell : Cell, H[ad o]? = some cell ∧ cell.vm.isStatics = false ∧ s.vm.findClass cn = some cell.cls := by
  obtain ⟨hK, hP, hD, hS, hw, hA⟩ := X
  rcases hcn with ⟨rfl, rfl⟩ | ⟨h41, q, hq, rfl⟩
  · have h1 : 1000200 ≤ o ∧ o < 1000217 := of_decide_eq_true hok
    obtain ⟨cell, g1, g2, g3, -⟩ := (SS.2.2.2.2.1 (o - 1000200) (by omega)).1.kept hS.2.1
    have e1 : e_sd ad0 (200 + (o - 1000200)) = ad o := by
      rw [hag o (Or.inr (by omega))]
      exact congrArg ad0 (show 1000000 + (200 + (o - 1000200)) = o by omega)
    rw [e1] at g1
    exact ⟨by omega, cell, g1, g2, g3⟩
  · have hlt := (List.getElem?_eq_some_iff.mp hq).1
    have h12 : vwCl.length = 12 := rfl
    have h42 : rc ≠ 42 := by omega
    have hk : e_k σ o = rc := by
      unfold e_okr at hok
      split at hok
      · omega
      · omega
      · exact of_decide_eq_true hok
    obtain ⟨a1, a2, a3⟩ := e_k_inv hk h0
    have hat := e_w_at (G := G) (ad := ad) a1 a2
    rw [e_en_obj a3 (by omega)] at hat
    exact ⟨by omega, va_recv hK hP hq hat⟩
theorem e_s_inv {n idx y rc np rk : Nat} {ig : Instr} {HK : Nat → e_S → e_X} (C : e_Cx p l R s m args meth c mi d G ad0 σ0 A r) (ih : e_Gl p l e R s m args below meth c Q mi d G ad0 σ0 A r n) (th : e_Th p l e R s m args below meth c Q mi G ad0 σ0 A r)
    (I : e_Iv G ad0 σ0 A s ad σ H locs cells slots) (hL : e_LR σ.1 ad ls LS (e_mL mi)) (hS : e_SR σ.1 ad st ST) (hmr : e_look (e_mr (e_own mi)) idx = some (y, rc, np, rk)) (hy : y < 9000)
    (kind : (ig = .invokestatic idx ∧ rc = 0) ∨ (ig = .invokevirtual idx ∧ rc ≠ 0 ∧ (e_yn y).name ≠ "<init>" ∧ e_hh y = []) ∨ (ig = .invokespecial idx ∧ rc ≠ 0 ∧ (e_yn y).name = "<init>" ∧ e_hh y = [] ∧ e_rt y = none ∧ HK = fun _ _ => none)) (hst0 : rc = 0 → (e_yn y).name ≠ "<init>")
    (hd : decode (e_cb mi) pc = .ok (ig, 3)) (hHK : HK = e_H (e_run (e_E d) mi n) mi pc ls ∨ HK = fun _ _ => none) (h : e_inv (e_E d) y rc np rk st σ (fun st σ => e_run (e_E d) mi n (pc + 3) ls st σ) HK = some r) : W p l e R s m args below meth c H locs cells slots Q (F0 m pc LS ST) := by
  obtain ⟨F, KS, SS, hCon, hR, hRm, hmi, htb, hlt⟩ := id C
  obtain ⟨X, hag, hl0, hc, hs⟩ := id I
  have ho : e_own mi < 21 := F.2.2.2.2.2.2.2.2
  obtain ⟨m1, m2, m3, ⟨cp, inst, kp, se, ini, m4, m5, m6, m7⟩, m8, m9, m10, m11, m12⟩ := e_mr_ok ho hmr hy
  have hwf : e_WF σ := X.2.2.2.2.1
  have hstart := fun vs => e_start X KS SS (e_sd_eq hag) hl0.2.2.2.1 hl0.2.2.2.2 vs
  unfold e_inv at h
  cases ha : e_args st np with
  | none => rw [ha] at h; cases h
  | some q =>
    obtain ⟨as, rest⟩ := q
    rw [ha] at h
    obtain ⟨a1, a2, a3, a4, a5⟩ := e_args_inv ha
    have hSt := e_SR_take np hS
    have hSd := e_SR_drop np hS
    have hST : (((ST.take np).reverse).reverse ++ ST.drop np) = ST := by rw [List.reverse_reverse, List.take_append_drop]
    have hlas : as.length = np := by rw [a4, List.length_reverse, List.length_take]; omega
    have hlAs : ((ST.take np).reverse).length = np := by rw [List.length_reverse, e_SR_len hSt, List.length_take]; omega
    have hcat : ∀ v ∈ as, v.category = 1 := by
      intro v hv
      rw [a4] at hv
      exact e_cat1 (by rw [a3, List.length_take]; omega) v (List.mem_reverse.mp hv)
    have hSas : e_SR σ.1 ad as (ST.take np).reverse := by rw [a4]; exact e_SR_rev hSt
    rw [a5] at h
    dsimp only at h
    by_cases hrc : rc = 0
    · subst hrc
      rcases kind with ⟨rfl, -⟩ | ⟨-, q, -⟩ | ⟨-, q, -⟩
      · refine e_s_after (a9 := ((ST.take np).reverse).toArray) C ih th I hL (fun q hq => e_Em_E d _ _ _ _ hq) hSd hHK h (fun v σ1 hv hf => ?_) (fun x σ1 hv hown hf hne => ?_)
        · have hC : e_Ct l d y σ (.inl v, σ1) G ad ((ST.take np).reverse) H.size := hCon y as σ (.inl v, σ1) m2 m3 (by rw [hlas]; exact m10 rfl) hcat hv hwf G ad _ H.size hSas
          have := e_run_S (LS := LS) (RT := ST.drop np) F KS hC hmr hy rfl ⟨e_blind, hstart _⟩ hlAs (e_LS_size hL) (by rw [e_SR_cat hSd]; exact a2) hd hR hf (p := p) (l := l) (e := e) (below := below) (locs := locs)
          rw [hST] at this
          exact this
        · have hC : e_Ct l d y σ (.inr x, σ1) G ad ((ST.take np).reverse) H.size := hCon y as σ (.inr x, σ1) m2 m3 (by rw [hlas]; exact m10 rfl) hcat hv hwf G ad _ H.size hSas
          have hnn : Cond.methodLink (e_on (e_own mi)) idx (e_yn y) ∈ e_U := by
            rcases m1 with q | ⟨-, -, -, q | q⟩
            · exact q
            · exact absurd q (hst0 rfl)
            · rcases hown with z | z
              · exact absurd z q.1
              · exact absurd z q.2
          have := e_run_SX (LS := LS) (RT := ST.drop np) F hC.2 hmr hy rfl hC.1 hnn ⟨e_blind, hstart _⟩ hlAs (e_LS_size hL) (by rw [e_SR_cat hSd]; exact a2) hd hR hf (p := p) (l := l) (e := e) (below := below) (locs := locs)
          rw [hST] at this
          exact this
      · exact absurd rfl q
      · exact absurd rfl q
    · obtain ⟨k, rfl⟩ : ∃ k, rc = k + 1 := ⟨rc - 1, by omega⟩
      replace h : (match List.drop np st with
        | .ref o :: r' => e_ck σ (k + 1) o (e_res rk (e_E d y (.ref o :: as) σ) (fun st σ => e_run (e_E d) mi n (pc + 3) ls st σ) r' HK)
        | _ => none) = some r := h
      split at h
      · rename_i o r' hrest
        unfold e_ck at h
        split at h
        · rename_i hok
          rw [hrest] at hSd a2
          obtain ⟨w, ws, hdr, hw, hSr⟩ := e_SR_ref hSd
          obtain ⟨ho0, hrecv⟩ := e_recv (cn := (e_yn y).cls) X hag SS hok hrc (by rcases m12 with q | q | q; exact absurd q hrc; exact Or.inl q; exact Or.inr q)
          rcases hw with ⟨q, -⟩ | ⟨hoo, rfl⟩
          · exact absurd q ho0
          have hsum : ((ws).map fun v => v.category).sum ≤ 8 := by
            rw [e_SR_cat hSr]
            simp only [List.map_cons, List.sum_cons] at a2
            omega
          have hST2 : ((ST.take np).reverse).reverse ++ Value.ref (ad o) :: ws = ST := by rw [← hdr]; exact hST
          have hSall : e_SR σ.1 ad (.ref o :: as) (.ref (ad o) :: (ST.take np).reverse) := ⟨Or.inr ⟨hoo, rfl⟩, hSas⟩
          have hlen : (Value.ref o :: as).length ≤ e_mL y := by
            have := m11 hrc
            simp only [List.length_cons]
            omega
          have hcat2 : ∀ v ∈ (Value.ref o :: as), v.category = 1 := fun v hv => by
            rcases List.mem_cons.mp hv with rfl | q
            · rfl
            · exact hcat v q
          refine e_s_after (a9 := (Value.ref (ad o) :: (ST.take np).reverse).toArray) C ih th I hL (fun q hq => e_Em_E d _ _ _ _ hq) hSr hHK h (fun v σ1 hv hf => ?_) (fun x σ1 hv hown hf hne => ?_)
          · have hC : e_Ct l d y σ (.inl v, σ1) G ad (.ref (ad o) :: (ST.take np).reverse) H.size := hCon y _ σ (.inl v, σ1) m2 m3 hlen hcat2 hv hwf G ad _ H.size hSall
            rcases kind with ⟨-, q⟩ | ⟨rfl, -, g1, g2⟩ | ⟨rfl, -, g1, g2, g3, -⟩
            · exact absurd q hrc
            · have hcls : ∃ cellB : Cell, H[ad o]? = some cellB ∧ cellB.vm.isStatics = false ∧ s.vm.findClass (e_yn y).cls = some cellB.cls := (e_recv X hag SS hok hrc (by rcases m12 with q | q | q; exact absurd q hrc; exact Or.inl q; exact Or.inr q)).2
              have := e_run_V (LS := LS) (RT := ws) (b := ad o) F KS hC hmr hy hrc g1 g2 ⟨e_blind, hcls, hstart _⟩ hlAs (e_LS_size hL) hsum hd hR hf (p := p) (l := l) (e := e) (below := below) (locs := locs)
              rw [hST2] at this
              exact this
            · have := e_run_I (LS := LS) (RT := ws) (b := ad o) F KS hC hmr hy hrc g1 g2 g3 ⟨e_blind, hstart _⟩ hlAs (e_LS_size hL) hsum hd hR hf (p := p) (l := l) (e := e) (below := below) (locs := locs)
              rw [hST2] at this
              exact this
          · have hC : e_Ct l d y σ (.inr x, σ1) G ad (.ref (ad o) :: (ST.take np).reverse) H.size := hCon y _ σ (.inr x, σ1) m2 m3 hlen hcat2 hv hwf G ad _ H.size hSall
            rcases kind with ⟨-, q⟩ | ⟨rfl, -, g1, g2⟩ | ⟨-, -, -, -, -, q⟩
            · exact absurd q hrc
            · have hcls : ∃ cellB : Cell, H[ad o]? = some cellB ∧ cellB.vm.isStatics = false ∧ s.vm.findClass (e_yn y).cls = some cellB.cls := (e_recv X hag SS hok hrc (by rcases m12 with q | q | q; exact absurd q hrc; exact Or.inl q; exact Or.inr q)).2
              have := e_run_VX (LS := LS) (RT := ws) (b := ad o) F hC.2 hmr hy hrc g1 g2 ⟨e_blind, hcls, hstart _⟩ hlAs (e_LS_size hL) hsum hd hR hf (p := p) (l := l) (e := e) (below := below) (locs := locs)
              rw [hST2] at this
              exact this
            · exact absurd q hne
        · cases h
      · cases h
end Sim2
end EX2
