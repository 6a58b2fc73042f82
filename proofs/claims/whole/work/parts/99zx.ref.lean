/-! the reference reads a rule: operands, and what stands between them -/
section S99zx
theorem Zco_14 (W : List Int32) : Zco (e_n 14 :: W) = Zco W + 1 := if_neg (by decide)
theorem Zco_c {c : Int32} {W : List Int32} (h : c < e_n 14) : Zco (c :: W) = Zco W := if_pos h
theorem tf_1 {p : Prop} [Decidable p] (h : p) : tf p = e_n 1 := if_pos h
theorem tf_0 {p : Prop} [Decidable p] (h : ¬ p) : tf p = e_n 0 := if_neg h
theorem Yfc_15 (b : Nat → Int32) (n p : Nat) : 1 ≤ Yfc b n p ∧ Yfc b n p ≤ 5 := by
  unfold Yfc
  split <;> decide
/-- what is known when an operand has been read -/
def OPo (z : e_Z) (J' : Nat → Nat → Int32) (z' : e_Z) (b : Nat → Int32) (n f : Nat) (r : ZR) : Prop :=
  LF z z' ∧ ((∃ f' p' o' W' T', f' < f ∧ n < p' + f' ∧ r = Zr b n f' none p' o' W' T' ∧ RS z' J' b n p' o' W' T') ∨ (∃ g q, r = .inr (g, q) ∧ RX J' g q))
theorem OPo_up {z z1 z' : e_Z} {J' : Nat → Nat → Int32} {b : Nat → Int32} {n f : Nat} {r : ZR} (h : OPo z1 J' z' b n f r) (hz : LF z z1) : OPo z J' z' b n (f + 1) r := by
  obtain ⟨h1, h2⟩ := h
  refine ⟨LF_tr hz h1, ?_⟩
  rcases h2 with ⟨f', p', o', W', T', q1, q2⟩ | q
  · exact Or.inl ⟨f', p', o', W', T', by omega, q2⟩
  · exact Or.inr q
theorem part_f {d g q : Nat} {z : e_Z} {J : Nat → Nat → Int32} (h : RE J g q) : e_E (d + 4) 203 [.ref 489] (mk J z) = some (.inl none, mk J z) := by
  have h0 := RE_ne h
  refine e_E_ret (d := d + 3) ?_
  show e_L (d + 3) 203 0 [.ref 489, .null] [] (mk J z) = _
  rw [C203_0 (fun q => absurd q h0) (fun q => absurd q h0), if_neg h0]
theorem deep_ok {d n p : Nat} {b : Nat → Int32} {J : Nat → Nat → Int32} {z : e_Z} {T : List Bool} (hD : RD J T) (hl : T.length < 6) : ∃ J', e_E (d + 2) 204 [.ref 489] (mk J z) = some (.inl none, mk J' z) ∧ RD J' (false :: T) ∧ (∀ r, r ≠ 489 → r ≠ 514 → J' r = J r) ∧ ∀ k, k ≠ 40 → J' 489 k = J 489 k := by
  obtain ⟨q1, q2⟩ := RD_p (v := e_n 0 &&& 1) hD hl (by decide)
  have h6 : J 489 40 < e_n 6 := by rw [hD.1, show (e_n 6) = e_n ((6 : Nat) : Nat) from rfl, e_n_ltN (by omega) (by omega)]; exact hl
  refine ⟨_, e_E_ret (d := d + 1) ?_, q1, fun r h1 h2 => ?_, fun k hk => ?_⟩
  · show e_L (d + 1) 204 0 [.ref 489] [] (mk J z) = _
    rw [C204_0 (fun _ => q2), if_pos h6]
  · rw [e_u_na h2, e_u_na h1]
  · rw [e_u_na (by decide), e_u_ne hk]
theorem deep_no {d n p : Nat} {b : Nat → Int32} {J : Nat → Nat → Int32} {z : e_Z} {T : List Bool} (hn : n ≤ 700) (hR : TR z J b n p) (h0 : J 489 20 = 0) (hD : RD J T) (hl : ¬ T.length < 6) : ∃ J', e_E (d + 2) 204 [.ref 489] (mk J z) = some (.inl none, mk J' z) ∧ RE J' (Yfc b n p) p ∧ (∀ r, r ≠ 489 → J' r = J r) ∧ ∀ k, k ≠ 20 → k ≠ 21 → J' 489 k = J 489 k := by
  have h6 : ¬ J 489 40 < e_n 6 := by
    have := hD.2.1
    rw [hD.1, show (e_n 6) = e_n ((6 : Nat) : Nat) from rfl, e_n_ltN (by omega) (by omega)]; exact hl
  have hx : (if J 489 25 = e_n 2 then e_n 2 else if J 489 25 = e_n 1 then e_n 2 else if (J 489 25 = e_n 3) ∧ (J 489 29 = (e_n 40)) then e_n 2 else e_n 1) = e_n (Yfc b n p : Nat) := by
    unfold Yfc
    by_cases t2 : tkK b n p = 2
    · rw [if_pos ((TR_2 hR).mpr t2), if_pos (Or.inl t2)]; rfl
    · rw [if_neg (fun q => t2 ((TR_2 hR).mp q))]
      by_cases t1 : tkK b n p = 1
      · rw [if_pos ((TR_1 hR).mpr t1), if_pos (Or.inr (Or.inl t1))]; rfl
      · rw [if_neg (fun q => t1 ((TR_1 hR).mp q))]
        by_cases t3 : Ysg b n p (e_n 40)
        · rw [if_pos ((TR_s hR).mpr t3), if_pos (Or.inr (Or.inr t3))]; rfl
        · rw [if_neg (fun q => t3 ((TR_s hR).mp q)), if_neg (fun q => q.elim t2 (fun q => q.elim t1 t3))]; rfl
  obtain ⟨f1, f5⟩ := Yfc_15 b n p
  obtain ⟨K, e1, e2, e3, e4⟩ := wrongH (d := d) hx h0 hR f1 f5
  refine ⟨K, e_E_ret (d := d + 1) ?_, e2, e3, e4⟩
  show e_L (d + 1) 204 0 [.ref 489] [] (mk J z) = _
  rw [C204_0 (fun q => absurd q h6), if_neg h6, e1, e_rV_n, C204_64]
theorem opH {d n : Nat} {b : Nat → Int32} {x1 : Int32} (hn : n ≤ 700) : ∀ (f : Nat) (mn : Bool) (k p : Nat) (o W : List Int32) (T : List Bool) (J : Nat → Nat → Int32) (z : e_Z) (x3 : Int32), n < p + f → k ≤ 6 → RS z J b n p o W T →
    ∃ J' z', e_L (d + 4) 205 18 [.ref 489, .int x1, .int (if mn = true then e_n 1 else e_n 0), .int x3, .int (e_n (k : Nat))] [] (mk J z) = some (.inl none, mk J' z') ∧ RFr J J' ∧ OPo z J' z' b n f (Zr b n f (some (mn, k)) p o W T) := by
  intro f
  induction f with
  | zero =>
    intro mn k p o W T J z x3 hf hk hS
    have := hS.1.1
    omega
  | succ f ih =>
    intro mn k p o W T J z x3 hf hk hS
    obtain ⟨hR, h20, hO, hD, hT, hb, hw⟩ := id hS
    replace h20 : J 489 20 = 0 := h20
    have hpn := hR.1
    have h39 : J 489 39 = e_n (W.length : Nat) := hO.2.2.1
    have g39 : InR (J 489 39) 950 := by rw [h39]; exact InR_n (by omega) (by omega) (by omega)
    -- the end of the loop: a part
    have part : ¬ (mn = true ∧ Yw b n p = e_n ((16 : Nat) : Nat)) → ¬ Ysg b n p (e_n 40) → ∀ (x2 : Int32) (x4 : Value), ∃ J' z', e_L (d + 4) 205 4 [.ref 489, .int x1, .int x2, .int (e_n 0), x4] [] (mk J z) = some (.inl none, mk J' z') ∧ RFr J J' ∧ OPo z J' z' b n (f + 1) (Zr b n (f + 1) (some (mn, k)) p o W T) := by
      intro hno hns x2 x4
      by_cases hpn2 : p < n
      · obtain ⟨J', z', e1, e2, e3, e4⟩ := partH (d := d) hn hS hpn2
        refine ⟨J', z', ?_, e2, e3, ?_⟩
        · rw [C205_4, if_pos (by decide), e1, e_rV_n, C205_124]
        · rw [Zr_op, if_neg hno, if_neg hns]
          have hlt := nxP_lt (b := b) hpn2
          rcases e4 with ⟨a, q1, q2⟩ | ⟨g, q, q1, q2⟩
          · refine Or.inl ⟨f, nxP b n p, o ++ a, W, T, Nat.lt_succ_self f, by omega, ?_, q2⟩
            by_cases k2 : tkK b n p = 2
            · rw [if_pos k2] at q1 ⊢
              by_cases h4 : 4 < Yln b n p
              · rw [if_pos h4] at q1; cases q1
              · rw [if_neg h4] at q1 ⊢; cases q1; rfl
            · rw [if_neg k2] at q1 ⊢
              by_cases k1 : tkK b n p = 1
              · rw [if_pos k1] at q1 ⊢
                by_cases c : Yw b n p < 0 ∨ e_n 7 < Yw b n p
                · rw [if_pos c] at q1; cases q1
                · rw [if_neg c] at q1 ⊢; cases q1; rfl
              · rw [if_neg k1] at q1; cases q1
          · refine Or.inr ⟨g, q, ?_, q2⟩
            by_cases k2 : tkK b n p = 2
            · rw [if_pos k2] at q1 ⊢
              by_cases h4 : 4 < Yln b n p
              · rw [if_pos h4] at q1 ⊢; cases q1; rfl
              · rw [if_neg h4] at q1; cases q1
            · rw [if_neg k2] at q1 ⊢
              by_cases k1 : tkK b n p = 1
              · rw [if_pos k1] at q1 ⊢
                by_cases c : Yw b n p < 0 ∨ e_n 7 < Yw b n p
                · rw [if_pos c] at q1 ⊢; cases q1; rfl
                · rw [if_neg c] at q1; cases q1
              · rw [if_neg k1] at q1 ⊢; cases q1; rfl
      · -- at the end
        have k0 : tkK b n p = 0 := by unfold tkK; rw [if_pos (by omega)]
        obtain ⟨K, e1, e2, e3, e4⟩ := wrongH (d := d + 2) (f := 1) (x := e_n 1) rfl h20 hR (by decide) (by decide)
        have n2 : ¬ J 489 25 = e_n 2 := fun q => absurd (k0.symm.trans ((TR_2 hR).mp q)) (by decide)
        have n1 : ¬ J 489 25 = e_n 1 := fun q => absurd (k0.symm.trans ((TR_1 hR).mp q)) (by decide)
        have e5 : e_E (d + 4) 203 [.ref 489] (mk J z) = some (.inl none, mk K z) := by
          refine e_E_ret (d := d + 3) ?_
          show e_L (d + 3) 203 0 [.ref 489, .null] [] (mk J z) = _
          rw [C203_0 (fun _ q => absurd q n2) (fun _ q => absurd q n2), if_pos h20, if_neg n2, if_neg n1, e1, e_rV_n, C203_91, if_neg (RE_ne e2)]
        refine ⟨K, z, ?_, RFr_wr e3 e4, LF_rf z, Or.inr ⟨1, p, ?_, RX_w e2 hO e3 e4 (by omega) (by omega)⟩⟩
        · rw [C205_4, if_pos (by decide), e5, e_rV_n, C205_124]
        · rw [Zr_op, if_neg hno, if_neg hns, if_neg (fun q => absurd (k0.symm.trans q) (by decide)), if_neg (fun q => absurd (k0.symm.trans q) (by decide))]
    -- an open sign
    have paren : ¬ (mn = true ∧ Yw b n p = e_n ((16 : Nat) : Nat)) → Ysg b n p (e_n 40) → ∃ J1 z1, e_E (d + 4) 187 [.ref 489] (mk (e_u (e_u J 513 (J 489 39).toNatClampNeg (e_n 14)) 489 39 (J 489 39 + e_n 1)) z) = some (.inl none, mk J1 z1) ∧ ∀ x2 x4 : Int32, ∃ J' z', e_L (d + 4) 205 111 [.ref 489, .int x1, .int x2, .int (e_n 1), .int x4] [] (mk J1 z1) = some (.inl none, mk J' z') ∧ RFr J J' ∧ OPo z J' z' b n (f + 1) (Zr b n (f + 1) (some (mn, k)) p o W T) := by
      intro hno hsg
      have hpn2 := (tk_3 hsg.1).1
      have hlt := nxP_lt (b := b) hpn2
      obtain ⟨w1, -⟩ := RO_w (v := e_n 14) hO (by omega)
      have hof : OFr J (e_u (e_u J 513 (J 489 39).toNatClampNeg (e_n 14)) 489 39 (J 489 39 + e_n 1)) := ⟨fun r q1 q2 q3 => by rw [e_u_na q1, e_u_na q3], fun k q1 q2 => by rw [e_u_ne q2, e_u_na (by decide)]⟩
      obtain ⟨J1, z1, e1, e2, e3, e4⟩ := goesH (d := d + 2) hn (TR_fr hR (hof.1 500 (by decide) (by decide) (by decide)) (fun k k1 k2 => hof.2 k (by omega) (by omega)))
      have f1 : RFr J J1 := RFr_tr (RFr_of hof) (RFr_tf e3)
      have hO1 : RO J1 o (e_n 14 :: W) := RO_fr w1 (e3.1 512 (by decide)) (e3.1 513 (by decide)) (e3.2 38 (by omega)) (e3.2 39 (by omega))
      have hD1 : RD J1 T := RD_fr hD ((e3.1 514 (by decide)).trans (hof.1 514 (by decide) (by decide) (by decide))) ((e3.2 40 (by omega)).trans (hof.2 40 (by decide) (by decide)))
      have h201 : J1 489 20 = 0 := (e3.2 20 (by omega)).trans ((hof.2 20 (by decide) (by decide)).trans h20)
      refine ⟨J1, z1, e1, fun x2 x4 => ?_⟩
      by_cases hl : T.length < 6
      · obtain ⟨J2, a1, a2, a3, a4⟩ := deep_ok (d := d + 2) (n := n) (p := p) (b := b) (z := z1) hD1 hl
        have hS2 : RS z1 J2 b n (nxP b n p) o (e_n 14 :: W) (false :: T) := ⟨TR_fr e2 (a3 500 (by decide) (by decide)) (fun k k1 k2 => a4 k (by omega)), (a4 20 (by decide)).trans h201, RO_fr hO1 (a3 512 (by decide) (by decide)) (a3 513 (by decide) (by decide)) (a4 38 (by decide)) (a4 39 (by decide)), a2, by rw [Zco_14]; simp; omega, by simp; omega, by simp; omega⟩
        obtain ⟨J3, z3, b1, b2, b3⟩ := ih true 0 (nxP b n p) o (e_n 14 :: W) (false :: T) J2 z1 (e_n 1) (by omega) (by decide) hS2
        refine ⟨J3, z3, ?_, RFr_tr (RFr_tr f1 ⟨fun r q1 q2 q3 q4 => a3 r q1 q4, fun k hk => a4 k (by omega)⟩) b2, ?_⟩
        · rw [C205_111, a1, e_rV_n, C205_115, C205_4, if_neg (by decide), if_pos (RS_g hS2)]
          exact b1
        · rw [Zr_op, if_neg hno, if_pos hsg, if_pos hl]
          exact OPo_up b3 e4
      · obtain ⟨J2, a1, a2, a3, a4⟩ := deep_no (d := d + 2) hn e2 h201 hD1 hl
        refine ⟨J2, z1, ?_, RFr_tr f1 (RFr_wr a3 a4), e4, Or.inr ⟨_, _, ?_, RX_w a2 hO1 a3 a4 (by simp; omega) (by simp; omega)⟩⟩
        · rw [C205_111, a1, e_rV_n, C205_115, C205_4, if_neg (by decide), if_neg (RE_ne a2), part_f a2, e_rV_n, C205_124]
        · rw [Zr_op, if_neg hno, if_pos hsg, if_neg hl]
    cases mn with
    | false =>
      show ∃ J' z', e_L (d + 4) 205 18 [.ref 489, .int x1, .int (e_n 0), .int x3, .int (e_n (k : Nat))] [] (mk J z) = some (.inl none, mk J' z') ∧ RFr J J' ∧ OPo z J' z' b n (f + 1) (Zr b n (f + 1) (some (false, k)) p o W T)
      have hno : ¬ (false = true ∧ Yw b n p = e_n ((16 : Nat) : Nat)) := fun q => absurd q.1 (by decide)
      rw [C205_18 (fun _ _ _ => g39), if_pos h20, if_pos (by decide)]
      by_cases hsg : Ysg b n p (e_n 40)
      · obtain ⟨J1, z1, e1, e2⟩ := paren hno hsg
        rw [if_pos ((TR_s hR).mpr hsg), tf_1 ((TR_s hR).mpr hsg), e1, e_rV_n]
        exact e2 _ _
      · rw [if_neg (fun q => hsg ((TR_s hR).mp q)), tf_0 (fun q => hsg ((TR_s hR).mp q))]
        exact part hno hsg _ _
    | true =>
      show ∃ J' z', e_L (d + 4) 205 18 [.ref 489, .int x1, .int (e_n 1), .int x3, .int (e_n (k : Nat))] [] (mk J z) = some (.inl none, mk J' z') ∧ RFr J J' ∧ OPo z J' z' b n (f + 1) (Zr b n (f + 1) (some (true, k)) p o W T)
      rw [C205_18 (fun _ _ _ => g39), if_pos h20, if_neg (by decide), wkH (d := d + 1) hn hR, e_rI_i, C205_33 (fun _ _ _ => g39) (fun _ _ _ => g39)]
      by_cases hw16 : Yw b n p = e_n ((16 : Nat) : Nat)
      · have hw16' : Yw b n p = e_n 16 := hw16
        have hpn2 := (tk_1 (Yw_1 (k := 16) (by decide) hw16)).1
        have hlt := nxP_lt (b := b) hpn2
        have h6 : (e_n (k : Nat) = e_n 6) = (k = 6) := by rw [show (e_n 6) = e_n ((6 : Nat) : Nat) from rfl, e_n_inj (by omega) (by omega) (by omega) (by omega)]; apply propext; omega
        have hyes : true = true ∧ Yw b n p = e_n ((16 : Nat) : Nat) := ⟨rfl, hw16⟩
        rw [if_pos hw16', Zr_op, if_pos hyes]
        by_cases hk6 : k = 6
        · obtain ⟨K, e1, e2, e3, e4⟩ := wrongH (d := d + 3) (f := 2) (x := e_n 2) rfl h20 hR (by decide) (by decide)
          have h0 := RE_ne e2
          refine ⟨K, z, ?_, RFr_wr e3 e4, LF_rf z, Or.inr ⟨2, p, by rw [if_pos hk6], RX_w e2 hO e3 e4 (by omega) (by omega)⟩⟩
          rw [if_pos (h6.mpr hk6), e1, e_rV_n, C205_50 (fun q => absurd q h0), if_neg h0, C205_18 (fun q => absurd q h0), if_neg h0, C205_4, if_pos (by decide), part_f e2, e_rV_n, C205_124]
        · obtain ⟨w1, -⟩ := RO_w (v := e_n 3) hO (by omega)
          have hof : OFr J (e_u (e_u J 513 (J 489 39).toNatClampNeg (e_n 3)) 489 39 (J 489 39 + e_n 1)) := ⟨fun r q1 q2 q3 => by rw [e_u_na q1, e_u_na q3], fun k q1 q2 => by rw [e_u_ne q2, e_u_na (by decide)]⟩
          obtain ⟨J1, z1, e1, e2, e3, e4⟩ := rs_goes (d := d + 2) (J0 := J) hn (TR_fr hR (hof.1 500 (by decide) (by decide) (by decide)) (fun k k1 k2 => hof.2 k (by omega) (by omega))) ((hof.2 20 (by decide) (by decide)).trans h20) w1 (RD_fr hD (hof.1 514 (by decide) (by decide) (by decide)) (hof.2 40 (by decide) (by decide))) (by rw [Zco_c (by decide)]; exact hT) hpn2 (by simp; omega) (by simp; omega) (RFr_of hof)
          obtain ⟨J3, z3, b1, b2, b3⟩ := ih true (k + 1) (nxP b n p) o (e_n 3 :: W) T J1 z1 x3 (by omega) (by omega) e2
          refine ⟨J3, z3, ?_, RFr_tr e3 b2, by rw [if_neg hk6]; exact OPo_up b3 e4⟩
          rw [if_neg (fun q => hk6 (h6.mp q)), if_pos h20, e1, e_rV_n, C205_72, e_n_succ]
          exact b1
      · have hno : ¬ (true = true ∧ Yw b n p = e_n ((16 : Nat) : Nat)) := fun q => hw16 q.2
        have hw16' : ¬ Yw b n p = e_n 16 := hw16
        rw [if_neg hw16']
        by_cases hsg : Ysg b n p (e_n 40)
        · obtain ⟨J1, z1, e1, e2⟩ := paren hno hsg
          have hc : (J 489 20 = 0) ∧ ((J 489 25 = e_n 3) ∧ (J 489 29 = (e_n 40))) := ⟨h20, (TR_s hR).mpr hsg⟩
          rw [if_pos hc, tf_1 hc, e1, e_rV_n]
          exact e2 _ _
        · have hc : ¬ ((J 489 20 = 0) ∧ ((J 489 25 = e_n 3) ∧ (J 489 29 = (e_n 40)))) := fun q => hsg ((TR_s hR).mp q.2)
          rw [if_neg hc, tf_0 hc]
          exact part hno hsg _ _
theorem opE {d n f p : Nat} {b : Nat → Int32} {mn : Bool} {o W : List Int32} {T : List Bool} {J : Nat → Nat → Int32} {z : e_Z} (hn : n ≤ 700) (hf : n < p + f) (hS : RS z J b n p o W T) : ∃ J' z', e_E (d + 5) 205 [.ref 489, .int (if mn = true then e_n 1 else e_n 0)] (mk J z) = some (.inl none, mk J' z') ∧ RFr J J' ∧ OPo z J' z' b n f (Zr b n f (some (mn, 0)) p o W T) := by
  obtain ⟨J', z', e1, e2⟩ := opH (d := d) (x1 := if mn = true then e_n 1 else e_n 0) hn f mn 0 p o W T J z (e_n 1) hf (by decide) hS
  refine ⟨J', z', e_E_ret (d := d + 4) ?_, e2⟩
  show e_L (d + 4) 205 0 [.ref 489, .int (if mn = true then e_n 1 else e_n 0), .null, .null, .null] [] (mk J z) = _
  rw [C205_0, C205_4, if_neg (by decide), if_pos (RS_g hS)]
  exact e1
end S99zx
