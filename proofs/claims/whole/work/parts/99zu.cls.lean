/-! the class reads a rule: levels -/
section S99zu
theorem CS_ns {z : e_Z} {J : Nat → Nat → Int32} {b : Nat → Int32} {n : Nat} {c : Int32} (h : (∃ f q, CF J f q) ∨ ∃ p cs, CS z J b n cs p ∧ ¬ Ysg b n p c) : ¬ (J 44 2 = 0 ∧ (J 45 7 = e_n 4 ∧ J 45 9 = c)) := by
  rcases h with ⟨f, q, h⟩ | ⟨p, cs, h, hs⟩
  · exact fun q2 => CF_ne h q2.1
  · exact fun q2 => hs ((CS_s h).mp q2.2)
theorem lt701 {i : Nat} (h : i ≤ 701) (h2 : ¬ i = 701) : e_n (i : Nat) < e_n 701 := by
  rw [show (e_n 701) = e_n ((701 : Nat) : Nat) from rfl, e_n_ltN (by omega) (by omega)]
  omega
theorem nlt701 : ¬ e_n ((701 : Nat) : Nat) < e_n 701 := nlt_k (k := 701) (by decide)
theorem Ylp_c {z : e_Z} {b : Nat → Int32} {n : Nat} {X : Nat → YR} {tok : Nat → Option Int32} (hn : n ≤ 700) (hG : YG n X) (ht : ∀ p c, tok p = some c → ¬ tkK b n p = 0) (K : Nat → Value → (Nat → Nat → Int32) → e_X)
    (hend : ∀ i u J, i ≤ 701 → (i = 701 ∨ (∃ f q, CF J f q) ∨ ∃ p cs, CS z J b n cs p ∧ tok p = none) → K i u J = some (.inl none, mk J z))
    (hstep : ∀ i u J p cs c, i < 701 → CS z J b n cs p → cs.length ≤ p → p < n → tok p = some c → ∃ J' u', K i u J = K (i + 1) u' J' ∧ CO z J' b n cs (Yb (X (nxP b n p)) (fun q a => .inl (q, a ++ [c]))) ∧ CFr z J J') :
    ∀ f i u J p cs a, i + f = 701 → CS z J b n (cs ++ a) p → (cs ++ a).length ≤ p → p ≤ n → ∃ J', K i u J = some (.inl none, mk J' z) ∧ CO z J' b n cs (Ylp b n X tok f p a) ∧ CFr z J J' := by
  intro f
  induction f with
  | zero =>
    intro i u J p cs a hi hC hl hp
    exact ⟨J, hend i u J (by omega) (Or.inl (by omega)), hC, CFr_rf⟩
  | succ f ih =>
    intro i u J p cs a hi hC hl hp
    rw [Ylp_s]
    cases hc : tok p with
    | none => exact ⟨J, hend i u J (by omega) (Or.inr (Or.inr ⟨p, _, hC, hc⟩)), hC, CFr_rf⟩
    | some c =>
      rw [Yo_s]
      have hlt := nxP_lt (b := b) (tk_lt (ht p c hc))
      obtain ⟨J1, u1, e1, e2, e3⟩ := hstep i u J p (cs ++ a) c (by omega) hC hl (tk_lt (ht p c hc)) hc
      rw [e1]
      cases hx : X (nxP b n p) with
      | inr e =>
        obtain ⟨g, q⟩ := e
        rw [hx, Yb_r, CO_er] at e2
        exact ⟨J1, hend (i + 1) u1 J1 (by omega) (Or.inr (Or.inl ⟨g, q, e2⟩)), e2, e3⟩
      | inl r =>
        obtain ⟨q, a1⟩ := r
        rw [hx, Yb_l, CO_in] at e2
        obtain ⟨g1, g2, g3⟩ := hG _ _ _ hlt.2 hx
        have hl2 : (cs ++ a ++ (a1 ++ [c])).length ≤ q := by
          simp at hl ⊢
          omega
        rw [show cs ++ a ++ (a1 ++ [c]) = cs ++ (a ++ a1 ++ [c]) by simp] at e2 hl2
        obtain ⟨J2, f1, f2, f3⟩ := ih (i + 1) u1 J1 q cs (a ++ a1 ++ [c]) (by omega) e2 hl2 g2
        exact ⟨J2, f1, f2, CFr_tr e3 f3⟩
/-- an operator's turn: on, the next operand, the code -/
theorem turn_c {z : e_Z} {b : Nat → Int32} {n p : Nat} {X : Nat → YR} {EX : e_S → e_X} {J J1 : Nat → Nat → Int32} {cs : List Int32} {c : Int32} (hn : n ≤ 700) (hG : YG n X) (hX : CX z b n EX X) (hp : p < n) (hl : cs.length ≤ p) (h1 : CS z J1 b n cs (nxP b n p)) (h2 : CFr z J J1) :
    ∃ J2, EX (mk J1 z) = some (.inl none, mk J2 z) ∧ ∀ d, ∃ J3, e_E (d + 2) 89 [.ref (bd z.2.1.2.1 + 8), .int c] (mk J2 z) = some (.inl none, mk J3 z) ∧ CO z J3 b n cs (Yb (X (nxP b n p)) (fun q a => .inl (q, a ++ [c]))) ∧ CFr z J J3 := by
  have hlt := nxP_lt (b := b) hp
  obtain ⟨J2, a1, a2, a3⟩ := hX J1 cs (nxP b n p) h1 (by omega) hlt.2
  refine ⟨J2, a1, fun d => ?_⟩
  cases hx : X (nxP b n p) with
  | inr e =>
    obtain ⟨f, q⟩ := e
    rw [hx, CO_er] at a2
    obtain ⟨J3, b1, b2, b3⟩ := cf_add (d := d) (z := z) (c := c) a2
    exact ⟨J3, b1, b2, CFr_tr (CFr_tr h2 a3) b3⟩
  | inl r =>
    obtain ⟨q, a⟩ := r
    rw [hx, CO_in] at a2
    obtain ⟨g1, g2, g3⟩ := hG _ _ _ hlt.2 hx
    obtain ⟨J3, b1, b2, b3⟩ := cs_add (d := d) (c := c) a2 (by simp; omega)
    refine ⟨J3, b1, ?_, CFr_tr (CFr_tr h2 a3) b3⟩
    rw [Yb_l, CO_in, ← List.append_assoc]
    exact b2
theorem c82h {d : Nat} {w : Int32} {z : e_Z} {b : Nat → Int32} {n : Nat} {sub : Nat → YR} (hn : n ≤ 700) (hs : YG n sub) (h : CX z b n (e_E (d + 4) 83 [.ref 44, .int w]) (Ypart b n sub)) : CX z b n (e_E (d + 5) 82 [.ref 44, .int w]) (Yprod b n sub) := by
  intro J cs p hC hl hp
  have hG := YG_part (b := b) hs
  obtain ⟨J1, a1, a2, a3⟩ := h J cs p hC hl hp
  suffices hx : ∃ J', e_L (d + 4) 82 0 [.ref 44, .int w, .null, .null] [] (mk J z) = some (.inl none, mk J' z) ∧ CO z J' b n cs (Yprod b n sub p) ∧ CFr z J J' by
    obtain ⟨J', e1, e2⟩ := hx
    exact ⟨J', e_E_ret (d := d + 4) e1, e2⟩
  rw [C82_0, a1, e_rV_n, C82_5]
  have hend : ∀ (i : Nat) (u : Value) (J : Nat → Nat → Int32), i ≤ 701 → (i = 701 ∨ (∃ f q, CF J f q) ∨ ∃ p cs, CS z J b n cs p ∧ Yt6 b n p = none) → e_L (d + 4) 82 7 [.ref 44, .int w, .int (e_n (i : Nat)), u] [] (mk J z) = some (.inl none, mk J z) := by
    intro i u J hi hh
    rw [C82_7]
    by_cases h7 : i = 701
    · rw [h7, if_neg nlt701]
    · have g : ∀ c, (c = e_n 42 ∨ c = e_n 47) → ¬ (J 44 2 = 0 ∧ (J 45 7 = e_n 4 ∧ J 45 9 = c)) := by
        intro c hc
        refine CS_ns (z := z) (b := b) (n := n) ?_
        rcases hh with q | q | ⟨p, cs, q1, q2⟩
        · exact absurd q h7
        · exact Or.inl q
        · have q3 := Yts_n q2
          refine Or.inr ⟨p, cs, q1, ?_⟩
          rcases hc with hc | hc
          · rw [hc]; exact q3.1
          · rw [hc]; exact q3.2
      rw [if_pos (lt701 hi h7), if_neg (g _ (Or.inl rfl)), if_neg (g _ (Or.inr rfl))]
  have hstep : ∀ (i : Nat) (u : Value) (J : Nat → Nat → Int32) (p : Nat) (cs : List Int32) (c : Int32), i < 701 → CS z J b n cs p → cs.length ≤ p → p < n → Yt6 b n p = some c → ∃ J' u', e_L (d + 4) 82 7 [.ref 44, .int w, .int (e_n (i : Nat)), u] [] (mk J z) = e_L (d + 4) 82 7 [.ref 44, .int w, .int (e_n ((i + 1 : Nat) : Nat)), u'] [] (mk J' z) ∧ CO z J' b n cs (Yb (Ypart b n sub (nxP b n p)) (fun q a => .inl (q, a ++ [c]))) ∧ CFr z J J' := by
    intro i u J p cs c hi hC hl hp ht
    obtain ⟨J1, b1, b2, b3⟩ := cs_step (d := d + 2) hC
    obtain ⟨J2, d1, d2⟩ := turn_c (c := c) hn hG h hp hl b2 b3
    obtain ⟨J3, f1, f2, f3⟩ := d2 (d + 2)
    refine ⟨J3, .int c, ?_, f2, f3⟩
    rw [C82_7, if_pos (lt701 (by omega) (by omega))]
    rcases Yts_s ht with ⟨t1, t2⟩ | ⟨t0, t1, t2⟩
    · rw [if_pos ⟨CS_0 hC, (CS_s hC).mpr t1⟩, ← t2, b1, e_rV_n, C82_56, d1, e_rV_n, C82_61, f1, e_rV_n, C82_72, e_n_succ]
    · rw [if_neg (fun q => t0 ((CS_s hC).mp q.2)), if_pos ⟨CS_0 hC, (CS_s hC).mpr t1⟩, ← t2, b1, e_rV_n, C82_56, d1, e_rV_n, C82_61, f1, e_rV_n, C82_72, e_n_succ]
  unfold Yprod
  cases hx : Ypart b n sub p with
  | inr e =>
    obtain ⟨f, q⟩ := e
    rw [hx, CO_er] at a2
    exact ⟨J1, hend 0 .null J1 (by decide) (Or.inr (Or.inl ⟨f, q, a2⟩)), a2, a3⟩
  | inl r =>
    obtain ⟨q, a⟩ := r
    rw [hx, CO_in] at a2
    obtain ⟨g1, g2, g3⟩ := hG _ _ _ hp hx
    obtain ⟨J2, f1, f2, f3⟩ := Ylp_c hn hG Yts_k (fun i u J => e_L (d + 4) 82 7 [.ref 44, .int w, .int (e_n (i : Nat)), u] [] (mk J z)) hend hstep 701 0 .null J1 q cs a rfl a2 (by simp; omega) g2
    exact ⟨J2, f1, f2, CFr_tr a3 f3⟩
theorem c81h {d : Nat} {w : Int32} {z : e_Z} {b : Nat → Int32} {n : Nat} {sub : Nat → YR} (hn : n ≤ 700) (hs : YG n sub) (h : CX z b n (e_E (d + 5) 82 [.ref 44, .int w]) (Yprod b n sub)) : CX z b n (e_E (d + 6) 81 [.ref 44, .int w]) (Ysum b n sub) := by
  intro J cs p hC hl hp
  have hG := YG_prod (b := b) hs
  obtain ⟨J1, a1, a2, a3⟩ := h J cs p hC hl hp
  suffices hx : ∃ J', e_L (d + 5) 81 0 [.ref 44, .int w, .null, .null] [] (mk J z) = some (.inl none, mk J' z) ∧ CO z J' b n cs (Ysum b n sub p) ∧ CFr z J J' by
    obtain ⟨J', e1, e2⟩ := hx
    exact ⟨J', e_E_ret (d := d + 5) e1, e2⟩
  rw [C81_0, a1, e_rV_n, C81_5]
  have hend : ∀ (i : Nat) (u : Value) (J : Nat → Nat → Int32), i ≤ 701 → (i = 701 ∨ (∃ f q, CF J f q) ∨ ∃ p cs, CS z J b n cs p ∧ Yt5 b n p = none) → e_L (d + 5) 81 7 [.ref 44, .int w, .int (e_n (i : Nat)), u] [] (mk J z) = some (.inl none, mk J z) := by
    intro i u J hi hh
    rw [C81_7]
    by_cases h7 : i = 701
    · rw [h7, if_neg nlt701]
    · have g : ∀ c, (c = e_n 43 ∨ c = e_n 45) → ¬ (J 44 2 = 0 ∧ (J 45 7 = e_n 4 ∧ J 45 9 = c)) := by
        intro c hc
        refine CS_ns (z := z) (b := b) (n := n) ?_
        rcases hh with q | q | ⟨p, cs, q1, q2⟩
        · exact absurd q h7
        · exact Or.inl q
        · have q3 := Yts_n q2
          refine Or.inr ⟨p, cs, q1, ?_⟩
          rcases hc with hc | hc
          · rw [hc]; exact q3.1
          · rw [hc]; exact q3.2
      rw [if_pos (lt701 hi h7), if_neg (g _ (Or.inl rfl)), if_neg (g _ (Or.inr rfl))]
  have hstep : ∀ (i : Nat) (u : Value) (J : Nat → Nat → Int32) (p : Nat) (cs : List Int32) (c : Int32), i < 701 → CS z J b n cs p → cs.length ≤ p → p < n → Yt5 b n p = some c → ∃ J' u', e_L (d + 5) 81 7 [.ref 44, .int w, .int (e_n (i : Nat)), u] [] (mk J z) = e_L (d + 5) 81 7 [.ref 44, .int w, .int (e_n ((i + 1 : Nat) : Nat)), u'] [] (mk J' z) ∧ CO z J' b n cs (Yb (Yprod b n sub (nxP b n p)) (fun q a => .inl (q, a ++ [c]))) ∧ CFr z J J' := by
    intro i u J p cs c hi hC hl hp ht
    obtain ⟨J1, b1, b2, b3⟩ := cs_step (d := d + 3) hC
    obtain ⟨J2, d1, d2⟩ := turn_c (c := c) hn hG h hp hl b2 b3
    obtain ⟨J3, f1, f2, f3⟩ := d2 (d + 3)
    refine ⟨J3, .int c, ?_, f2, f3⟩
    rw [C81_7, if_pos (lt701 (by omega) (by omega))]
    rcases Yts_s ht with ⟨t1, t2⟩ | ⟨t0, t1, t2⟩
    · rw [if_pos ⟨CS_0 hC, (CS_s hC).mpr t1⟩, ← t2, b1, e_rV_n, C81_56, d1, e_rV_n, C81_61, f1, e_rV_n, C81_72, e_n_succ]
    · rw [if_neg (fun q => t0 ((CS_s hC).mp q.2)), if_pos ⟨CS_0 hC, (CS_s hC).mpr t1⟩, ← t2, b1, e_rV_n, C81_56, d1, e_rV_n, C81_61, f1, e_rV_n, C81_72, e_n_succ]
  unfold Ysum
  cases hx : Yprod b n sub p with
  | inr e =>
    obtain ⟨f, q⟩ := e
    rw [hx, CO_er] at a2
    exact ⟨J1, hend 0 .null J1 (by decide) (Or.inr (Or.inl ⟨f, q, a2⟩)), a2, a3⟩
  | inl r =>
    obtain ⟨q, a⟩ := r
    rw [hx, CO_in] at a2
    obtain ⟨g1, g2, g3⟩ := hG _ _ _ hp hx
    obtain ⟨J2, f1, f2, f3⟩ := Ylp_c hn hG Yts_k (fun i u J => e_L (d + 5) 81 7 [.ref 44, .int w, .int (e_n (i : Nat)), u] [] (mk J z)) hend hstep 701 0 .null J1 q cs a rfl a2 (by simp; omega) g2
    exact ⟨J2, f1, f2, CFr_tr a3 f3⟩
theorem c80h {d : Nat} {w : Int32} {z : e_Z} {b : Nat → Int32} {n : Nat} {sub : Nat → YR} (hn : n ≤ 700) (hs : YG n sub) (h : CX z b n (e_E (d + 6) 81 [.ref 44, .int w]) (Ysum b n sub)) : CX z b n (e_E (d + 7) 80 [.ref 44, .int w]) (Ytest b n sub) := by
  intro J cs p hC hl hp
  have hG := YG_sum (b := b) hs
  obtain ⟨J1, a1, a2, a3⟩ := h J cs p hC hl hp
  suffices hx : ∃ J', e_L (d + 6) 80 0 [.ref 44, .int w, .null] [] (mk J z) = some (.inl none, mk J' z) ∧ CO z J' b n cs (Ytest b n sub p) ∧ CFr z J J' by
    obtain ⟨J', e1, e2⟩ := hx
    exact ⟨J', e_E_ret (d := d + 6) e1, e2⟩
  rw [C80_0, a1, e_rV_n, C80_5]
  unfold Ytest
  cases hx : Ysum b n sub p with
  | inr e =>
    obtain ⟨f, q⟩ := e
    rw [hx, CO_er] at a2
    refine ⟨J1, ?_, a2, a3⟩
    rw [if_neg (CS_ns (z := z) (b := b) (n := n) (Or.inl ⟨f, q, a2⟩)), if_neg (CS_ns (z := z) (b := b) (n := n) (Or.inl ⟨f, q, a2⟩))]
  | inl r =>
    obtain ⟨q, a⟩ := r
    rw [hx, CO_in] at a2
    obtain ⟨g1, g2, g3⟩ := hG _ _ _ hp hx
    rw [Yb_l, Ylp_s]
    cases hc : Yt4 b n q with
    | none =>
      obtain ⟨t1, t2⟩ := Yts_n hc
      refine ⟨J1, ?_, a2, a3⟩
      rw [if_neg (CS_ns (Or.inr ⟨q, _, a2, t1⟩)), if_neg (CS_ns (Or.inr ⟨q, _, a2, t2⟩))]
    | some c =>
      rw [Yo_s]
      have hlt := tk_lt (Yts_k q c hc)
      have hl2 : (cs ++ a).length ≤ q := by simp; omega
      obtain ⟨J2, b1, b2, b3⟩ := cs_step (d := d + 4) a2
      obtain ⟨J3, d1, d2⟩ := turn_c (c := c) hn hG h hlt hl2 b2 b3
      obtain ⟨J4, f1, f2, f3⟩ := d2 (d + 4)
      refine ⟨J4, ?_, ?_, CFr_tr a3 f3⟩
      · rcases Yts_s hc with ⟨t1, t2⟩ | ⟨t0, t1, t2⟩
        · rw [if_pos ⟨CS_0 a2, (CS_s a2).mpr t1⟩, ← t2, b1, e_rV_n, C80_47, d1, e_rV_n, C80_52, f1, e_rV_n, C80_63]
        · rw [if_neg (fun q => t0 ((CS_s a2).mp q.2)), if_pos ⟨CS_0 a2, (CS_s a2).mpr t1⟩, ← t2, b1, e_rV_n, C80_47, d1, e_rV_n, C80_52, f1, e_rV_n, C80_63]
      · cases hx2 : Ysum b n sub (nxP b n q) with
        | inr e =>
          rw [hx2, Yb_r] at f2
          exact f2
        | inl r2 =>
          obtain ⟨q2, a1'⟩ := r2
          rw [hx2, Yb_l, CO_in] at f2
          rw [Yb_l, Ylp_0, CO_in]
          rw [show cs ++ (a ++ a1' ++ [c]) = cs ++ a ++ (a1' ++ [c]) by simp]
          exact f2
theorem nots_ok {d : Nat} {w u : Int32} {z : e_Z} {b : Nat → Int32} {n p : Nat} {x2 : Nat} (hx2 : x2 ≤ 6) : ∀ (f i : Nat) (J : Nat → Nat → Int32) (cs : List Int32), i + f = x2 → CS z J b n cs p → cs.length + f ≤ 700 → ∃ J', e_L (d + 7) 79 59 [.ref 44, .int w, .int (e_n (x2 : Nat)), .int (e_n (i : Nat))] [] (mk J z) = some (.inl none, mk J' z) ∧ CS z J' b n (cs ++ List.replicate f (e_n (-11))) p ∧ CFr z J J' := by
  intro f
  induction f with
  | zero =>
    intro i J cs hi hC hl
    refine ⟨J, ?_, by simpa using hC, CFr_rf⟩
    rw [C79_59, if_neg (by rw [e_n_ltN (by omega) (by omega)]; omega)]
  | succ f ih =>
    intro i J cs hi hC hl
    obtain ⟨J1, a1, a2, a3⟩ := cs_add (d := d + 5) (c := e_n (-11)) hC (by omega)
    obtain ⟨J2, b1, b2, b3⟩ := ih (i + 1) J1 (cs ++ [e_n (-11)]) (by omega) a2 (by simp; omega)
    refine ⟨J2, ?_, ?_, CFr_tr a3 b3⟩
    · rw [C79_59, if_pos (by rw [e_n_ltN (by omega) (by omega)]; omega), a1, e_rV_n, C79_76, e_n_succ]
      exact b1
    · rw [List.replicate_succ, show cs ++ e_n (-11) :: List.replicate f (e_n (-11)) = cs ++ [e_n (-11)] ++ List.replicate f (e_n (-11)) by simp]
      exact b2
theorem nots_f {d g q : Nat} {w : Int32} {z : e_Z} {x2 : Nat} (hx2 : x2 ≤ 6) : ∀ (f i : Nat) (J : Nat → Nat → Int32), i + f = x2 → CF J g q → ∃ J', e_L (d + 7) 79 59 [.ref 44, .int w, .int (e_n (x2 : Nat)), .int (e_n (i : Nat))] [] (mk J z) = some (.inl none, mk J' z) ∧ CF J' g q ∧ CFr z J J' := by
  intro f
  induction f with
  | zero =>
    intro i J hi hC
    refine ⟨J, ?_, hC, CFr_rf⟩
    rw [C79_59, if_neg (by rw [e_n_ltN (by omega) (by omega)]; omega)]
  | succ f ih =>
    intro i J hi hC
    obtain ⟨J1, a1, a2, a3⟩ := cf_add (d := d + 5) (z := z) (c := e_n (-11)) hC
    obtain ⟨J2, b1, b2, b3⟩ := ih (i + 1) J1 (by omega) a2
    refine ⟨J2, ?_, b2, CFr_tr a3 b3⟩
    rw [C79_59, if_pos (by rw [e_n_ltN (by omega) (by omega)]; omega), a1, e_rV_n, C79_76, e_n_succ]
    exact b1
/-- so many nots more -/
def Ynm2 (r : YR) (x : Nat) : YR := Yb r (fun q a => .inl (q, a ++ List.replicate x (e_n (-11))))
theorem c79h {d : Nat} {w : Int32} {z : e_Z} {b : Nat → Int32} {n : Nat} {sub : Nat → YR} (hn : n ≤ 700) (hs : YG n sub) (h : CX z b n (e_E (d + 7) 80 [.ref 44, .int w]) (Ytest b n sub)) : CX z b n (e_E (d + 8) 79 [.ref 44, .int w]) (Ynot b n sub 6) := by
  have hG := YG_test (b := b) hs
  -- behind the nots
  have last : ∀ (x : Nat) (J : Nat → Nat → Int32) (cs : List Int32) (p : Nat), x ≤ 6 → ¬ Yw b n p = e_n ((16 : Nat) : Nat) → CS z J b n cs p → cs.length + x ≤ p → p ≤ n → ∃ J', e_L (d + 7) 79 43 [.ref 44, .int w, .int (e_n (x : Nat)), .int (e_n (x : Nat))] [.int (e_n 0)] (mk J z) = some (.inl none, mk J' z) ∧ CO z J' b n cs (Ynm2 (Ytest b n sub p) x) ∧ CFr z J J' := by
    intro x J cs p hx hw hC hl hp
    obtain ⟨J1, a1, a2, a3⟩ := h J cs p hC (by omega) hp
    rw [C79_43, if_pos (by decide), a1, e_rV_n, C79_57]
    unfold Ynm2
    cases hx2 : Ytest b n sub p with
    | inr e =>
      obtain ⟨f, q⟩ := e
      rw [hx2, CO_er] at a2
      obtain ⟨J2, b1, b2, b3⟩ := nots_f (d := d) (w := w) (z := z) hx x 0 J1 (by omega) a2
      exact ⟨J2, b1, b2, CFr_tr a3 b3⟩
    | inl r =>
      obtain ⟨q, a⟩ := r
      rw [hx2, CO_in] at a2
      obtain ⟨g1, g2, g3⟩ := hG _ _ _ hp hx2
      obtain ⟨J2, b1, b2, b3⟩ := nots_ok (d := d) (w := w) (u := 0) hx x 0 J1 (cs ++ a) (by omega) a2 (by simp; omega)
      refine ⟨J2, b1, ?_, CFr_tr a3 b3⟩
      rw [Yb_l, CO_in, ← List.append_assoc]
      exact b2
  have loop : ∀ (k x : Nat) (J : Nat → Nat → Int32) (cs : List Int32) (p : Nat), k + x = 6 → CS z J b n cs p → cs.length + x ≤ p → p ≤ n → ∃ J', e_L (d + 7) 79 4 [.ref 44, .int w, .int (e_n (x : Nat)), .int (e_n (x : Nat))] [] (mk J z) = some (.inl none, mk J' z) ∧ CO z J' b n cs (Ynm2 (Ynot b n sub k p) x) ∧ CFr z J J' := by
    intro k
    induction k with
    | zero =>
      intro x J cs p hk hC hl hp
      have hx6 : x = 6 := by omega
      have hw : e_E (d + 7) 75 [.ref 44, .ref 1000108] (mk J z) = some (.inl (some (.int (if Yw b n p = e_n ((16 : Nat) : Nat) then e_n 1 else e_n 0))), mk J z) := c75h (d := d + 5) (k := 16) (by decide) hC
      rw [C79_4, if_neg (by rw [hx6]; decide), hw, e_rI_i]
      have e : Ynot b n sub 0 p = if Yw b n p = e_n ((16 : Nat) : Nat) then .inr (2, p) else Ytest b n sub p := rfl
      rw [e]
      by_cases hq : Yw b n p = e_n ((16 : Nat) : Nat)
      · obtain ⟨J1, a1, a2, a3⟩ := cs_fail (d := d + 6) (f := 2) (x := e_n 2) rfl hC (by decide) (by decide)
        rw [if_pos hq, if_pos hq]
        refine ⟨J1, ?_, a2, a3⟩
        rw [C79_43, if_neg (by decide), a1, e_rV_n, C79_51]
      · rw [if_neg hq, if_neg hq]
        exact last x J cs p (by omega) hq hC hl hp
    | succ k ih =>
      intro x J cs p hk hC hl hp
      have hw : e_E (d + 7) 75 [.ref 44, .ref 1000108] (mk J z) = some (.inl (some (.int (if Yw b n p = e_n ((16 : Nat) : Nat) then e_n 1 else e_n 0))), mk J z) := c75h (d := d + 5) (k := 16) (by decide) hC
      rw [C79_4, if_pos (by rw [show (e_n 6) = e_n ((6 : Nat) : Nat) from rfl, e_n_ltN (by omega) (by omega)]; omega), hw, e_rI_i]
      have e : Ynot b n sub (k + 1) p = if Yw b n p = e_n ((16 : Nat) : Nat) then Yb (Ynot b n sub k (nxP b n p)) (fun q a => .inl (q, a ++ [e_n (-11)])) else Ytest b n sub p := rfl
      rw [e]
      by_cases hq : Yw b n p = e_n ((16 : Nat) : Nat)
      · rw [if_pos hq, if_pos hq]
        have hlt := nxP_lt (b := b) (n := n) (p := p) (tk_1 (Yw_1 (k := 16) (by decide) hq)).1
        obtain ⟨J1, a1, a2, a3⟩ := cs_step (d := d + 5) hC
        obtain ⟨J2, b1, b2, b3⟩ := ih (x + 1) J1 cs (nxP b n p) (by omega) a2 (by omega) hlt.2
        refine ⟨J2, ?_, ?_, CFr_tr a3 b3⟩
        · rw [C79_17, if_neg (by decide), a1, e_rV_n, C79_27, e_n_succ]
          exact b1
        · unfold Ynm2 at b2 ⊢
          cases hx : Ynot b n sub k (nxP b n p) with
          | inr e2 => rw [hx] at b2; exact b2
          | inl r =>
            obtain ⟨q, a⟩ := r
            rw [hx, Yb_l] at b2
            rw [Yb_l, Yb_l, show a ++ [e_n (-11)] ++ List.replicate x (e_n (-11)) = a ++ List.replicate (x + 1) (e_n (-11)) by rw [List.replicate_succ]; simp]
            exact b2
      · rw [if_neg hq, if_neg hq, C79_17, if_pos (by decide), hw, if_neg hq, e_rI_i]
        exact last x J cs p (by omega) hq hC hl hp
  intro J cs p hC hl hp
  obtain ⟨J1, a1, a2, a3⟩ := loop 6 0 J cs p rfl hC hl hp
  refine ⟨J1, e_E_ret (d := d + 7) ?_, ?_, a3⟩
  · show e_L (d + 7) 79 0 [.ref 44, .int w, .null, .null] [] (mk J z) = _
    rw [C79_0]
    exact a1
  · unfold Ynm2 at a2
    cases hx : Ynot b n sub 6 p with
    | inr e2 => rw [hx] at a2; exact a2
    | inl r =>
      obtain ⟨q, a⟩ := r
      rw [hx, Yb_l, List.replicate_zero, List.append_nil] at a2
      exact a2
theorem c78h {d : Nat} {w : Int32} {z : e_Z} {b : Nat → Int32} {n : Nat} {sub : Nat → YR} (hn : n ≤ 700) (hs : YG n sub) (h : CX z b n (e_E (d + 8) 79 [.ref 44, .int w]) (Ynot b n sub 6)) : CX z b n (e_E (d + 9) 78 [.ref 44, .int w]) (Yand b n sub) := by
  intro J cs p hC hl hp
  have hG := YG_not (b := b) hs 6
  obtain ⟨J1, a1, a2, a3⟩ := h J cs p hC hl hp
  suffices hx : ∃ J', e_L (d + 8) 78 0 [.ref 44, .int w, .null] [] (mk J z) = some (.inl none, mk J' z) ∧ CO z J' b n cs (Yand b n sub p) ∧ CFr z J J' by
    obtain ⟨J', e1, e2⟩ := hx
    exact ⟨J', e_E_ret (d := d + 8) e1, e2⟩
  rw [C78_0, a1, e_rV_n, C78_5]
  have hend : ∀ (i : Nat) (u : Value) (J : Nat → Nat → Int32), i ≤ 701 → (i = 701 ∨ (∃ f q, CF J f q) ∨ ∃ p cs, CS z J b n cs p ∧ Yt2 b n p = none) → e_L (d + 8) 78 7 [.ref 44, .int w, .int (e_n (i : Nat))] [] (mk J z) = some (.inl none, mk J z) := by
    intro i u J hi hh
    rw [C78_7]
    by_cases h7 : i = 701
    · rw [h7, if_neg nlt701]
    · rw [if_pos (lt701 hi h7)]
      rcases hh with q | ⟨f, q, q1⟩ | ⟨p, cs, q1, q2⟩
      · exact absurd q h7
      · rw [c75f (d := d + 6) q1, e_rI_i, C78_21, if_pos (by decide)]
      · have hw : e_E (d + 8) 75 [.ref 44, .ref 1000107] (mk J z) = some (.inl (some (.int (if Yw b n p = e_n ((14 : Nat) : Nat) then e_n 1 else e_n 0))), mk J z) := c75h (d := d + 6) (k := 14) (by decide) q1
        rw [hw, if_neg (Ytw_n q2), e_rI_i, C78_21, if_pos (by decide)]
  have hstep : ∀ (i : Nat) (u : Value) (J : Nat → Nat → Int32) (p : Nat) (cs : List Int32) (c : Int32), i < 701 → CS z J b n cs p → cs.length ≤ p → p < n → Yt2 b n p = some c → ∃ (J' : Nat → Nat → Int32) (u' : Value), e_L (d + 8) 78 7 [.ref 44, .int w, .int (e_n (i : Nat))] [] (mk J z) = e_L (d + 8) 78 7 [.ref 44, .int w, .int (e_n ((i + 1 : Nat) : Nat))] [] (mk J' z) ∧ CO z J' b n cs (Yb (Ynot b n sub 6 (nxP b n p)) (fun q a => .inl (q, a ++ [c]))) ∧ CFr z J J' := by
    intro i u J p cs c hi hC hl hp ht
    obtain ⟨t1, t2⟩ := Ytw_s ht
    obtain ⟨J1, b1, b2, b3⟩ := cs_step (d := d + 6) hC
    obtain ⟨J2, d1, d2⟩ := turn_c (c := c) hn hG h hp hl b2 b3
    obtain ⟨J3, f1, f2, f3⟩ := d2 (d + 6)
    refine ⟨J3, .null, ?_, f2, f3⟩
    have hw : e_E (d + 8) 75 [.ref 44, .ref 1000107] (mk J z) = some (.inl (some (.int (if Yw b n p = e_n ((14 : Nat) : Nat) then e_n 1 else e_n 0))), mk J z) := c75h (d := d + 6) (k := 14) (by decide) hC
    rw [C78_7, if_pos (lt701 (by omega) (by omega)), hw, if_pos t1, e_rI_i, C78_21, if_neg (by decide), b1, e_rV_n, C78_31, d1, e_rV_n, C78_36, ← t2, f1, e_rV_n, C78_48, e_n_succ]
  unfold Yand
  cases hx : Ynot b n sub 6 p with
  | inr e =>
    obtain ⟨f, q⟩ := e
    rw [hx, CO_er] at a2
    exact ⟨J1, hend 0 .null J1 (by decide) (Or.inr (Or.inl ⟨f, q, a2⟩)), a2, a3⟩
  | inl r =>
    obtain ⟨q, a⟩ := r
    rw [hx, CO_in] at a2
    obtain ⟨g1, g2, g3⟩ := hG _ _ _ hp hx
    obtain ⟨J2, f1, f2, f3⟩ := Ylp_c hn hG (Ytw_k (by decide)) (fun i u J => e_L (d + 8) 78 7 [.ref 44, .int w, .int (e_n (i : Nat))] [] (mk J z)) hend hstep 701 0 .null J1 q cs a rfl a2 (by simp; omega) g2
    exact ⟨J2, f1, f2, CFr_tr a3 f3⟩
theorem c77h {d : Nat} {w : Int32} {z : e_Z} {b : Nat → Int32} {n : Nat} {sub : Nat → YR} (hn : n ≤ 700) (hs : YG n sub) (hw6 : w < e_n 6) (h : CX z b n (e_E (d + 9) 78 [.ref 44, .int w]) (Yand b n sub)) : CX z b n (e_E (d + 10) 77 [.ref 44, .int w]) (Yor b n sub) := by
  intro J cs p hC hl hp
  have hG := YG_and (b := b) hs
  obtain ⟨J1, a1, a2, a3⟩ := h J cs p hC hl hp
  suffices hx : ∃ J', e_L (d + 9) 77 0 [.ref 44, .int w, .null] [] (mk J z) = some (.inl none, mk J' z) ∧ CO z J' b n cs (Yor b n sub p) ∧ CFr z J J' by
    obtain ⟨J', e1, e2⟩ := hx
    exact ⟨J', e_E_ret (d := d + 9) e1, e2⟩
  rw [C77_0, if_pos hw6, a1, e_rV_n, C77_65]
  have hend : ∀ (i : Nat) (u : Value) (J : Nat → Nat → Int32), i ≤ 701 → (i = 701 ∨ (∃ f q, CF J f q) ∨ ∃ p cs, CS z J b n cs p ∧ Yt1 b n p = none) → e_L (d + 9) 77 67 [.ref 44, .int w, .int (e_n (i : Nat))] [] (mk J z) = some (.inl none, mk J z) := by
    intro i u J hi hh
    rw [C77_67]
    by_cases h7 : i = 701
    · rw [h7, if_neg nlt701]
    · rw [if_pos (lt701 hi h7)]
      rcases hh with q | ⟨f, q, q1⟩ | ⟨p, cs, q1, q2⟩
      · exact absurd q h7
      · rw [c75f (d := d + 7) q1, e_rI_i, C77_81, if_pos (by decide)]
      · have hw : e_E (d + 9) 75 [.ref 44, .ref 1000106] (mk J z) = some (.inl (some (.int (if Yw b n p = e_n ((15 : Nat) : Nat) then e_n 1 else e_n 0))), mk J z) := c75h (d := d + 7) (k := 15) (by decide) q1
        rw [hw, if_neg (Ytw_n q2), e_rI_i, C77_81, if_pos (by decide)]
  have hstep : ∀ (i : Nat) (u : Value) (J : Nat → Nat → Int32) (p : Nat) (cs : List Int32) (c : Int32), i < 701 → CS z J b n cs p → cs.length ≤ p → p < n → Yt1 b n p = some c → ∃ (J' : Nat → Nat → Int32) (u' : Value), e_L (d + 9) 77 67 [.ref 44, .int w, .int (e_n (i : Nat))] [] (mk J z) = e_L (d + 9) 77 67 [.ref 44, .int w, .int (e_n ((i + 1 : Nat) : Nat))] [] (mk J' z) ∧ CO z J' b n cs (Yb (Yand b n sub (nxP b n p)) (fun q a => .inl (q, a ++ [c]))) ∧ CFr z J J' := by
    intro i u J p cs c hi hC hl hp ht
    obtain ⟨t1, t2⟩ := Ytw_s ht
    obtain ⟨J1, b1, b2, b3⟩ := cs_step (d := d + 7) hC
    obtain ⟨J2, d1, d2⟩ := turn_c (c := c) hn hG h hp hl b2 b3
    obtain ⟨J3, f1, f2, f3⟩ := d2 (d + 7)
    refine ⟨J3, .null, ?_, f2, f3⟩
    have hw : e_E (d + 9) 75 [.ref 44, .ref 1000106] (mk J z) = some (.inl (some (.int (if Yw b n p = e_n ((15 : Nat) : Nat) then e_n 1 else e_n 0))), mk J z) := c75h (d := d + 7) (k := 15) (by decide) hC
    rw [C77_67, if_pos (lt701 (by omega) (by omega)), hw, if_pos t1, e_rI_i, C77_81, if_neg (by decide), b1, e_rV_n, C77_91, d1, e_rV_n, C77_96, ← t2, f1, e_rV_n, C77_108, e_n_succ]
  unfold Yor
  cases hx : Yand b n sub p with
  | inr e =>
    obtain ⟨f, q⟩ := e
    rw [hx, CO_er] at a2
    exact ⟨J1, hend 0 .null J1 (by decide) (Or.inr (Or.inl ⟨f, q, a2⟩)), a2, a3⟩
  | inl r =>
    obtain ⟨q, a⟩ := r
    rw [hx, CO_in] at a2
    obtain ⟨g1, g2, g3⟩ := hG _ _ _ hp hx
    obtain ⟨J2, f1, f2, f3⟩ := Ylp_c hn hG (Ytw_k (by decide)) (fun i u J => e_L (d + 9) 77 67 [.ref 44, .int w, .int (e_n (i : Nat))] [] (mk J z)) hend hstep 701 0 .null J1 q cs a rfl a2 (by simp; omega) g2
    exact ⟨J2, f1, f2, CFr_tr a3 f3⟩
/-- an expression: so many more may stand within one another -/
theorem c77h' {z : e_Z} {b : Nat → Int32} {n : Nat} (hn : n ≤ 700) : ∀ (k w d : Nat), k + w = 6 → CX z b n (e_E (d + 7 * k + 10) 77 [.ref 44, .int (e_n (w : Nat))]) (Yexp b n k)
  | 0, w, d, hk => by
    intro J cs p hC hl hp
    obtain ⟨h7, -, -⟩ := CS_k hC
    have e6 : w = 6 := by omega
    have q2 : (J 45 7 = e_n 2) ↔ tkK b n p = 1 := by rw [h7]; exact ck_2
    have q3 : (J 45 7 = e_n 3) ↔ tkK b n p = 2 := by rw [h7]; exact ck_3
    obtain ⟨f, hf, hf1, hf5, hf2⟩ : ∃ f : Nat, (if (J 45 7 = e_n 3) ∨ (J 45 7 = e_n 2) then e_n 2 else if (J 45 7 = e_n 4) ∧ (J 45 9 = (e_n 40)) then e_n 2 else e_n 1) = e_n (f : Nat) ∧ 1 ≤ f ∧ f ≤ 5 ∧ f = (if tkK b n p = 2 ∨ tkK b n p = 1 ∨ Ysg b n p (e_n 40) then 2 else 1) := by
      by_cases t : (J 45 7 = e_n 3) ∨ (J 45 7 = e_n 2)
      · refine ⟨2, by rw [if_pos t]; rfl, by decide, by decide, ?_⟩
        rw [if_pos (t.elim (fun q => Or.inl (q3.mp q)) (fun q => Or.inr (Or.inl (q2.mp q))))]
      · by_cases t2 : (J 45 7 = e_n 4) ∧ (J 45 9 = (e_n 40))
        · refine ⟨2, by rw [if_neg t, if_pos t2]; rfl, by decide, by decide, ?_⟩
          rw [if_pos (Or.inr (Or.inr ((CS_s hC).mp t2)))]
        · refine ⟨1, by rw [if_neg t, if_neg t2]; rfl, by decide, by decide, ?_⟩
          rw [if_neg (fun q => q.elim (fun q => t (Or.inl (q3.mpr q))) (fun q => q.elim (fun q => t (Or.inr (q2.mpr q))) (fun q => t2 ((CS_s hC).mpr q))))]
    obtain ⟨J1, a1, a2, a3⟩ := cs_fail (d := d + 8) hf hC hf1 hf5
    refine ⟨J1, e_E_ret (d := d + 9) ?_, ?_, a3⟩
    · show e_L (d + 9) 77 0 [.ref 44, .int (e_n (w : Nat)), .null] [] (mk J z) = _
      rw [C77_0, if_neg (by rw [e6]; decide), a1, e_rV_n, C77_59]
    · show CF J1 _ _
      rw [← hf2]; exact a2
  | k + 1, w, d, hk => by
    have hsub : CX z b n (e_E (d + 7 * k + 10) 77 [.ref 44, .int (e_n ((w + 1 : Nat) : Nat))]) (Yexp b n k) := c77h' hn k (w + 1) d (by omega)
    have hs : YG n (Yexp b n k) := YG_exp k
    have h := c77h (d := d + 7 * k + 7) (w := e_n (w : Nat)) hn hs (by rw [show (e_n 6) = e_n ((6 : Nat) : Nat) from rfl, e_n_ltN (by omega) (by omega)]; omega) (c78h (d := d + 7 * k + 7) hn hs (c79h (d := d + 7 * k + 7) hn hs (c80h (d := d + 7 * k + 7) hn hs (c81h (d := d + 7 * k + 7) hn hs (c82h (d := d + 7 * k + 7) hn hs (c83h (d := d + 7 * k + 7) hn hs hsub))))))
    have e : d + 7 * (k + 1) + 10 = d + 7 * k + 7 + 10 := by omega
    rw [e]
    exact h
end S99zu
