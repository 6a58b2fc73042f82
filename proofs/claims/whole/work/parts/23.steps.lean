section Steps2
variable {p : Program} {l : Launch} {e : Env} {R : Room} {s : State} {m : MethodId} {args : Array Value} {below : List Frame} {meth : Method} {c : Code} {H : Heap} {locs : List Loc} {cells slots : Nat} {Q : State → Prop}
variable {cc : ByteArray} {pc len nL : Nat} {ls st : List Value} {LS : Array Slot} {N : Nat} {ad : Nat → Nat} {ST : List Value}
theorem e_ilo_inv {ls st : List Value} {n : Nat} {q : List Value × List Value} (h : e_ilo ls st n = some q) : ∃ x, ls[n]? = some (.int x) ∧ q = (ls, .int x :: st) := by
  unfold e_ilo at h
  split at h
  · exact ⟨_, by assumption, (Option.some.inj h).symm⟩
  · cases h
theorem e_llo_inv {ls st : List Value} {n : Nat} {q : List Value × List Value} (h : e_llo ls st n = some q) : ∃ x, ls[n]? = some (.long x) ∧ q = (ls, .long x :: st) := by
  unfold e_llo at h
  split at h
  · exact ⟨_, by assumption, (Option.some.inj h).symm⟩
  · cases h
theorem e_alo_inv {ls st : List Value} {n : Nat} {q : List Value × List Value} (h : e_alo ls st n = some q) : ∃ x, ls[n]? = some (.ref x) ∧ q = (ls, .ref x :: st) := by
  unfold e_alo at h
  split at h
  · exact ⟨_, by assumption, (Option.some.inj h).symm⟩
  · cases h
theorem e_sto_inv {ls r : List Value} {n : Nat} {v : Value} {q : List Value × List Value} (h : e_sto ls n v r = some q) : n < ls.length ∧ e_cl ls n = true ∧ q = (ls.set n v, r) := by
  unfold e_sto at h
  cases hb : (Nat.blt n ls.length && e_cl ls n) with
  | true =>
    rw [hb] at h
    rw [Bool.and_eq_true] at hb
    exact ⟨Nat.lt_of_succ_le (by simpa [Nat.blt] using hb.1), hb.2, (Option.some.inj h).symm⟩
  | false => rw [hb] at h; cases h
theorem e_sto2_inv {ls r : List Value} {n : Nat} {v : Value} {q : List Value × List Value} (h : e_sto2 ls n v r = some q) : n + 1 < ls.length ∧ e_cl ls n = true ∧ q = ((ls.set n v).set (n + 1) .null, r) := by
  unfold e_sto2 at h
  cases hb : (Nat.blt (n + 1) ls.length && e_cl ls n) with
  | true =>
    rw [hb] at h
    rw [Bool.and_eq_true] at hb
    exact ⟨Nat.lt_of_succ_le (by simpa [Nat.blt] using hb.1), hb.2, (Option.some.inj h).symm⟩
  | false => rw [hb] at h; cases h
theorem e_LR_int {i : Nat} {x : Int32} (h : e_LR N ad ls LS nL) (hv : ls[i]? = some (.int x)) : LS[i]? = some (.val (.int x)) := by
  obtain ⟨w, hw, h1⟩ := e_LR_at h hv (fun q => by cases q)
  rw [show w = .int x from hw] at h1; exact h1
theorem e_LR_long {i : Nat} {x : Int64} (h : e_LR N ad ls LS nL) (hv : ls[i]? = some (.long x)) : LS[i]? = some (.val (.long x)) := by
  obtain ⟨w, hw, h1⟩ := e_LR_at h hv (fun q => by cases q)
  rw [show w = .long x from hw] at h1; exact h1
theorem e_LR_ref {i a : Nat} (h : e_LR N ad ls LS nL) (hv : ls[i]? = some (.ref a)) : (a = 0 ∧ LS[i]? = some (.val .null)) ∨ (e_ok N a ∧ LS[i]? = some (.val (.ref (ad a)))) := by
  obtain ⟨w, hw, h1⟩ := e_LR_at h hv (fun q => by cases q)
  rcases (show (a = 0 ∧ w = .null) ∨ (e_ok N a ∧ w = .ref (ad a)) from hw) with ⟨h0, rfl⟩ | ⟨h0, rfl⟩
  · exact Or.inl ⟨h0, h1⟩
  · exact Or.inr ⟨h0, h1⟩
set_option maxHeartbeats 4000000 in
/-- what reads or writes locals -/
theorem e_s_loc (hx : p.tables.exec = Jvm.exec) (hb : c.code = cc) {i : Instr} {ls' st' : List Value} (hp : e_loc i ls st = some (ls', st')) (hd : decode cc pc = .ok (i, len)) (hl : len = e_ln i) (hL : e_LR N ad ls LS nL) (hS : e_SR N ad st ST)
    (k : ∀ LS' ST', e_LR N ad ls' LS' nL → e_SR N ad st' ST' → W p l e R s m args below meth c H locs cells slots Q (F0 m (pc + len) LS' ST')) : W p l e R s m args below meth c H locs cells slots Q (F0 m pc LS ST) := by
  subst hl
  obtain ⟨hn, lv, hlv, hrd⟩ := id hL
  cases i <;> first | (simp only [e_loc] at hp; cases hp; done) | skip
  case iload n =>
    obtain ⟨x, h1, h2⟩ := e_ilo_inv hp
    cases h2
    exact lv_iload hx hb hd (e_LR_int hL h1) (k _ _ hL ⟨rfl, hS⟩)
  case iload_n n =>
    obtain ⟨x, h1, h2⟩ := e_ilo_inv hp
    cases h2
    exact lv_iload_n hx hb hd rfl (e_LR_int hL h1) (k _ _ hL ⟨rfl, hS⟩)
  case lload n =>
    obtain ⟨x, h1, h2⟩ := e_llo_inv hp
    cases h2
    exact lv_lload hx hb hd (e_LR_long hL h1) (k _ _ hL ⟨rfl, hS⟩)
  case lload_n n =>
    obtain ⟨x, h1, h2⟩ := e_llo_inv hp
    cases h2
    exact lv_lload_n hx hb hd rfl (e_LR_long hL h1) (k _ _ hL ⟨rfl, hS⟩)
  case aload n =>
    obtain ⟨x, h1, h2⟩ := e_alo_inv hp
    cases h2
    rcases e_LR_ref hL h1 with ⟨h0, h3⟩ | ⟨h0, h3⟩
    · exact lv_aloadN hx hb hd h3 (k _ _ hL ⟨Or.inl ⟨h0, rfl⟩, hS⟩)
    · exact lv_aload hx hb hd h3 (k _ _ hL ⟨Or.inr ⟨h0, rfl⟩, hS⟩)
  case aload_n n =>
    obtain ⟨x, h1, h2⟩ := e_alo_inv hp
    cases h2
    rcases e_LR_ref hL h1 with ⟨h0, h3⟩ | ⟨h0, h3⟩
    · exact lv_aload_nN hx hb hd rfl h3 (k _ _ hL ⟨Or.inl ⟨h0, rfl⟩, hS⟩)
    · exact lv_aload_n hx hb hd rfl h3 (k _ _ hL ⟨Or.inr ⟨h0, rfl⟩, hS⟩)
  case istore n =>
    simp only [e_loc] at hp
    split at hp
    · obtain ⟨h1, h2, h3⟩ := e_sto_inv hp
      cases h3
      obtain ⟨w, rfl, h⟩ := e_SR_int hS
      exact lv_istore hx hb hd hlv (by omega) rfl (fun LS' h5 => k _ _ (e_LR_st1 hn hrd h2 (fun _ => rfl) h5) h)
    · cases hp
  case istore_n n =>
    simp only [e_loc] at hp
    split at hp
    · obtain ⟨h1, h2, h3⟩ := e_sto_inv hp
      cases h3
      obtain ⟨w, rfl, h⟩ := e_SR_int hS
      exact lv_istore_n hx hb hd rfl hlv (by omega) rfl (fun LS' h5 => k _ _ (e_LR_st1 hn hrd h2 (fun _ => rfl) h5) h)
    · cases hp
  case astore n =>
    simp only [e_loc] at hp
    split at hp
    · obtain ⟨h1, h2, h3⟩ := e_sto_inv hp
      cases h3
      obtain ⟨w, ws, rfl, hw, h⟩ := e_SR_ref hS
      rcases hw with ⟨h0, rfl⟩ | ⟨h0, rfl⟩
      · exact lv_astoreN hx hb hd hlv (by omega) rfl (fun LS' h5 => k _ _ (e_LR_st1 hn hrd h2 (fun _ => Or.inl ⟨h0, rfl⟩) h5) h)
      · exact lv_astore hx hb hd hlv (by omega) rfl (fun LS' h5 => k _ _ (e_LR_st1 hn hrd h2 (fun _ => Or.inr ⟨h0, rfl⟩) h5) h)
    · obtain ⟨h1, h2, h3⟩ := e_sto_inv hp
      cases h3
      obtain ⟨w, ws, rfl, hw, h⟩ := e_SR_cons hS
      rcases (show w = .null ∨ ∃ q, w = .ref q from hw) with rfl | ⟨q, rfl⟩
      · exact lv_astoreN hx hb hd hlv (by omega) rfl (fun LS' h5 => k _ _ (e_LR_st1 hn hrd h2 (fun q => absurd rfl q) h5) h)
      · exact lv_astore hx hb hd hlv (by omega) rfl (fun LS' h5 => k _ _ (e_LR_st1 hn hrd h2 (fun q => absurd rfl q) h5) h)
    · cases hp
  case astore_n n =>
    simp only [e_loc] at hp
    split at hp
    · obtain ⟨h1, h2, h3⟩ := e_sto_inv hp
      cases h3
      obtain ⟨w, ws, rfl, hw, h⟩ := e_SR_ref hS
      rcases hw with ⟨h0, rfl⟩ | ⟨h0, rfl⟩
      · exact lv_astore_nN hx hb hd rfl hlv (by omega) rfl (fun LS' h5 => k _ _ (e_LR_st1 hn hrd h2 (fun _ => Or.inl ⟨h0, rfl⟩) h5) h)
      · exact lv_astore_n hx hb hd rfl hlv (by omega) rfl (fun LS' h5 => k _ _ (e_LR_st1 hn hrd h2 (fun _ => Or.inr ⟨h0, rfl⟩) h5) h)
    · obtain ⟨h1, h2, h3⟩ := e_sto_inv hp
      cases h3
      obtain ⟨w, ws, rfl, hw, h⟩ := e_SR_cons hS
      rcases (show w = .null ∨ ∃ q, w = .ref q from hw) with rfl | ⟨q, rfl⟩
      · exact lv_astore_nN hx hb hd rfl hlv (by omega) rfl (fun LS' h5 => k _ _ (e_LR_st1 hn hrd h2 (fun q => absurd rfl q) h5) h)
      · exact lv_astore_n hx hb hd rfl hlv (by omega) rfl (fun LS' h5 => k _ _ (e_LR_st1 hn hrd h2 (fun q => absurd rfl q) h5) h)
    · cases hp
  case lstore n =>
    simp only [e_loc] at hp
    split at hp
    · obtain ⟨h1, h2, h3⟩ := e_sto2_inv hp
      cases h3
      obtain ⟨w, rfl, h⟩ := e_SR_long hS
      exact lv_lstore hx hb hd hlv (by omega) rfl (fun LS' h5 => k _ _ (e_LR_st2 hn hrd h2 (fun _ => rfl) h5) h)
    · cases hp
  case lstore_n n =>
    simp only [e_loc] at hp
    split at hp
    · obtain ⟨h1, h2, h3⟩ := e_sto2_inv hp
      cases h3
      obtain ⟨w, rfl, h⟩ := e_SR_long hS
      exact lv_lstore_n hx hb hd rfl hlv (by omega) rfl (fun LS' h5 => k _ _ (e_LR_st2 hn hrd h2 (fun _ => rfl) h5) h)
    · cases hp
  case iinc n z =>
    simp only [e_loc] at hp
    split at hp
    · rename_i x hv
      cases hp
      obtain ⟨w, hw, hm⟩ := hrd n _ hv (fun q => by cases q)
      rw [show w = .int x from hw] at hm
      obtain ⟨kk, hkk⟩ := List.getElem?_of_mem hm
      have hlt : n < ls.length := by
        rcases Nat.lt_or_ge n ls.length with q | q
        · exact q
        · rw [List.getElem?_eq_none (by simpa using q)] at hv; cases hv
      have hcl : e_cl ls n = true := by
        cases n with
        | zero => rfl
        | succ n =>
          show (match ls[n]? with | some (.long _) => false | _ => true) = true
          split
          · rename_i y hy
            exfalso
            obtain ⟨w2, hw2, hm2⟩ := hrd n _ hy (fun q => by cases q)
            rw [show w2 = .long y from hw2] at hm2
            have q1 := hlv.2.2 _ hm2
            have q2 := hlv.2.2 _ hm
            have q3 := hlv.2.1.1 n _ q1 rfl
            dsimp only at q2
            rw [q3] at q2
            cases q2
          · rfl
      exact lv_iinc hx hb hd hlv hkk rfl (by omega) rfl (fun LS' h5 => k _ _ (e_LR_st1 hn hrd hcl (fun _ => rfl) h5) hS)
    · cases hp
theorem e_s_cc (cond : ClassFile.Cond) {x y : Int32} {A B : Prop} (h : if e_cc cond x y = true then A else B) : (match cond with | .eq => (x = y → A) ∧ (¬ x = y → B) | .ne => (¬ x = y → A) ∧ (¬ ¬ x = y → B) | .lt => (x < y → A) ∧ (¬ x < y → B) | .ge => (y ≤ x → A) ∧ (¬ y ≤ x → B) | .gt => (y < x → A) ∧ (¬ y < x → B) | .le => (x ≤ y → A) ∧ (¬ x ≤ y → B)) := by
  cases cond <;> simp only [e_cc, decide_eq_true_eq] at h <;> dsimp only <;> refine ⟨fun q => ?_, fun q => ?_⟩ <;> first | (rw [if_pos q] at h; exact h) | (rw [if_neg q] at h; exact h)
set_option maxHeartbeats 4000000 in
/-- branches -/
theorem e_s_br (hx : p.tables.exec = Jvm.exec) (hb : c.code = cc) {i : Instr} {b : Bool} {tgt : Nat} {st' : List Value} (hp : e_br i st = some (b, st')) (hd : decode cc pc = .ok (i, len)) (hl : len = e_ln i) (ht : e_tg pc tgt i = true) (hS : e_SR N ad st ST)
    (kt : b = true → ∀ ST', e_SR N ad st' ST' → W p l e R s m args below meth c H locs cells slots Q (F0 m tgt LS ST')) (kf : ¬ b = true → ∀ ST', e_SR N ad st' ST' → W p l e R s m args below meth c H locs cells slots Q (F0 m (pc + len) LS ST')) : W p l e R s m args below meth c H locs cells slots Q (F0 m pc LS ST) := by
  subst hl
  cases i <;> first | (simp only [e_br] at hp; cases hp; done) | skip
  case ifCond cond off =>
    simp only [e_br] at hp
    split at hp
    · cases hp
      obtain ⟨w, rfl, h⟩ := e_SR_int hS
      have ht' := of_decide_eq_true ht
      cases cond <;> simp only [e_cc, decide_eq_true_eq] at kt kf
      · exact lv_if_eq hx hb hd ht' (fun q => kt q _ h) (fun q => kf q _ h)
      · exact lv_if_ne hx hb hd ht' (fun q => kt q _ h) (fun q => kf (fun z => z q) _ h)
      · exact lv_if_lt hx hb hd ht' (fun q => kt q _ h) (fun q => kf q _ h)
      · exact lv_if_ge hx hb hd ht' (fun q => kt q _ h) (fun q => kf q _ h)
      · exact lv_if_gt hx hb hd ht' (fun q => kt q _ h) (fun q => kf q _ h)
      · exact lv_if_le hx hb hd ht' (fun q => kt q _ h) (fun q => kf q _ h)
    · cases hp
  case if_icmp cond off =>
    simp only [e_br] at hp
    split at hp
    · cases hp
      obtain ⟨w, rfl, h0⟩ := e_SR_int hS
      obtain ⟨w, rfl, h⟩ := e_SR_int h0
      have ht' := of_decide_eq_true ht
      cases cond <;> simp only [e_cc, decide_eq_true_eq] at kt kf
      · exact lv_icmp_eq hx hb hd ht' (fun q => kt q _ h) (fun q => kf q _ h)
      · exact lv_icmp_ne hx hb hd ht' (fun q => kt q _ h) (fun q => kf (fun z => z q) _ h)
      · exact lv_icmp_lt hx hb hd ht' (fun q => kt q _ h) (fun q => kf q _ h)
      · exact lv_icmp_ge hx hb hd ht' (fun q => kt q _ h) (fun q => kf q _ h)
      · exact lv_icmp_gt hx hb hd ht' (fun q => kt q _ h) (fun q => kf q _ h)
      · exact lv_icmp_le hx hb hd ht' (fun q => kt q _ h) (fun q => kf q _ h)
    · cases hp
  case ifnull off =>
    simp only [e_br] at hp
    split at hp
    · cases hp
      obtain ⟨w, ws, rfl, hw, h⟩ := e_SR_ref hS
      have ht' := of_decide_eq_true ht
      rcases hw with ⟨h0, rfl⟩ | ⟨h0, rfl⟩
      · exact lv_ifnullN hx hb hd ht' (kt (by simpa using h0) _ h)
      · exact lv_ifnull hx hb hd (kf (by simpa using e_ok_ne h0) _ h)
    · cases hp
  case ifnonnull off =>
    simp only [e_br] at hp
    split at hp
    · cases hp
      obtain ⟨w, ws, rfl, hw, h⟩ := e_SR_ref hS
      have ht' := of_decide_eq_true ht
      rcases hw with ⟨h0, rfl⟩ | ⟨h0, rfl⟩
      · exact lv_ifnonnullN hx hb hd (kf (by simpa using h0) _ h)
      · exact lv_ifnonnull hx hb hd ht' (kt (by simpa using e_ok_ne h0) _ h)
    · cases hp
end Steps2
