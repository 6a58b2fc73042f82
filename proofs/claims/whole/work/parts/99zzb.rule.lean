/-! a rule, read by the reference; its codes can be reckoned -/
section S99zzb
theorem nop_stop2 {b : Nat → Int32} {n q f : Nat} {o W : List Int32} {T : List Bool} (h : NOP b n 1 q T) (hW : Zco W = 0) : Zr b n (f + 1) none q o W T = .inl (q, o, W, T) := by
  by_cases hc : Ysg b n q (e_n 41)
  · rw [Zr_af, if_neg (Ysg_w (k := 14) (by decide) hc), if_neg (Ysg_w (k := 15) (by decide) hc), if_neg (fun q => Ysg_ne hc (show ¬ e_n 41 = e_n 60 by decide) q.1), if_neg (fun q => Ysg_ne hc (show ¬ e_n 41 = e_n 61 by decide) q.1), if_neg (Ysg_ne hc (by decide)), if_neg (Ysg_ne hc (by decide)), if_neg (Ysg_ne hc (by decide)), if_neg (Ysg_ne hc (by decide)), if_neg (fun q => by have := q.2; omega)]
  · exact nop_stop h hc
/-- what the reference's memory shows behind a rule -/
def XO (z : e_Z) (J : Nat → Nat → Int32) (b : Nat → Int32) (n : Nat) (x : YR) : Prop := match x with
  | .inl q => TR z J b n q.1 ∧ J 489 20 = e_n 0 ∧ (enc q.2).length < 1399 ∧ ∀ j, j ≤ (enc q.2).length → J 512 j = (enc q.2 ++ [e_n 0]).getD j 0
  | .inr e => RE J e.1 e.2
theorem XO_in {z : e_Z} {J : Nat → Nat → Int32} {b : Nat → Int32} {n q : Nat} {a : List Int32} : XO z J b n (.inl (q, a)) = (TR z J b n q ∧ J 489 20 = e_n 0 ∧ (enc a).length < 1399 ∧ ∀ j, j ≤ (enc a).length → J 512 j = (enc a ++ [e_n 0]).getD j 0) := rfl
theorem XO_er {z : e_Z} {J : Nat → Nat → Int32} {b : Nat → Int32} {n g q : Nat} : XO z J b n (.inr (g, q)) = RE J g q := rfl
theorem c208h {d n p : Nat} {b : Nat → Int32} {J : Nat → Nat → Int32} {z : e_Z} (hn : n ≤ 700) (hR : TR z J b n p) (h20 : J 489 20 = e_n 0) (h38 : J 489 38 = e_n 0) (hp : 2 ≤ p) :
    ∃ J' z', e_E (d + 6) 208 [.ref 489] (mk J z) = some (.inl none, mk J' z') ∧ RFr J J' ∧ LF z z' ∧ XO z' J' b n (Yexp b n 6 p) := by
  suffices hx : ∃ J' z', e_L (d + 5) 208 0 [.ref 489, .null, .null] [] (mk J z) = some (.inl none, mk J' z') ∧ RFr J J' ∧ LF z z' ∧ XO z' J' b n (Yexp b n 6 p) by
    obtain ⟨J', z', e1, e2⟩ := hx
    exact ⟨J', z', e_E_ret (d := d + 5) e1, e2⟩
  replace h20 : J 489 20 = 0 := h20
  have hpn := hR.1
  have k9 : ∀ k, k ≠ 39 → k ≠ 40 → (e_u (e_u J 489 39 (e_n 0)) 489 40 (e_n 0)) 489 k = J 489 k := fun k k1 k2 => by rw [e_u_ne k2, e_u_ne k1]
  have kr : ∀ r, r ≠ 489 → (e_u (e_u J 489 39 (e_n 0)) 489 40 (e_n 0)) r = J r := fun r hr => by rw [e_u_na hr, e_u_na hr]
  have hD0 : RD (e_u (e_u J 489 39 (e_n 0)) 489 40 (e_n 0)) [] := ⟨by rw [e_u_same]; rfl, by simp, fun j hj => absurd hj (Nat.not_lt_zero j)⟩
  have h39 : (e_u (e_u J 489 39 (e_n 0)) 489 40 (e_n 0)) 489 39 = e_n 0 := by rw [e_u_ne (by decide), e_u_same]
  obtain ⟨J1, a1, a2, a3, a4⟩ := deep_ok (d := d + 3) (n := n) (p := p) (b := b) (z := z) hD0 (by simp)
  have f1 : RFr J J1 := ⟨fun r q1 q2 q3 q4 => (a3 r q1 q4).trans (kr r q1), fun k hk => (a4 k (by omega)).trans (k9 k (by omega) (by omega))⟩
  have hS : RS z J1 b n p [] [] [false] := by
    refine ⟨TR_fr hR ((a3 500 (by decide) (by decide)).trans (kr 500 (by decide))) (fun k k1 k2 => (a4 k (by omega)).trans (k9 k (by omega) (by omega))), (a4 20 (by decide)).trans ((k9 20 (by decide) (by decide)).trans h20), ⟨?_, fun j hj => absurd hj (Nat.not_lt_zero j), ?_, fun j hj => absurd hj (Nat.not_lt_zero j)⟩, a2, rfl, by simp; omega, by simp⟩
    · exact (a4 38 (by decide)).trans ((k9 38 (by decide) (by decide)).trans h38)
    · exact (a4 39 (by decide)).trans h39
  obtain ⟨J3, z3, b1, b2⟩ := after_op (mn := true) hn (afH (d := d) hn (n + 1)) hS (show n < p + (n + 1) by omega) (Nat.le_refl _) f1 (LF_rf z)
  have b1' : e_E (d + 5) 205 [.ref 489, .int (e_n 1)] (mk J1 z) = some (.inl none, mk J3 z3) := b1
  obtain ⟨J', z', x, u', c1, c2, c3, c4⟩ := b2 .null
  have hso := exp_sim (b := b) hn 5 (n + 1) (true, 0) p [] [] [false] hpn (by omega) rfl LIM_nil (by simp) (by simp) (fun _ => rfl)
  rw [C208_0, if_pos h20, a1, e_rV_n, C208_22, b1', e_rV_n, C208_27, c1]
  -- the end: what waits is dropped, STOP is put
  have last : ∀ (K : Nat → Nat → Int32) (zz : e_Z) (o W : List Int32) (x : Int32) (u : Value), RO K o W → o.length + W.length ≤ 1398 → W.length ≤ 900 → ∃ K', e_rV (e_E (d + 5) 201 [.ref 489, .int (e_n 0)] (mk K zz)) (fun σ => e_L (d + 5) 208 350 [.ref 489, .int x, u] [] σ) (e_H (e_L (d + 5) 208) 208 347 [.ref 489, .int x, u]) = some (.inl none, mk K' zz) ∧ RO K' ((Zdr (e_n 0) o W).1 ++ [e_n 0]) (Zdr (e_n 0) o W).2 ∧ OFr K K' := by
    intro K zz o W x u h1 h2 h3
    obtain ⟨K1, d1, d2, d3⟩ := dropsH (d := d + 3) (l := e_n 0) (z := zz) W o K h1 (by omega) h3
    obtain ⟨l1, l2⟩ := Zdr_len (l := e_n 0) W o
    obtain ⟨p1, p2⟩ := RO_o (v := e_n 0) d2 (by omega)
    refine ⟨_, ?_, p1, fun r q1 q2 q3 => ?_, fun k q1 q2 => ?_⟩
    · rw [d1, e_rV_n, C208_350 p2]
    · rw [e_u_na q1, e_u_na q2]; exact d3.1 r q1 q2 q3
    · rw [e_u_ne q1, e_u_na (by decide)]; exact d3.2 k q1 q2
  rcases c4 with ⟨p', o', W', T', e0, e1, e2⟩ | ⟨g, q, e0, e1, e2⟩
  · have hp' := e2.1.1
    obtain ⟨hR2, h202, hO2, hD2, hT2, hb2, hw2⟩ := id e2
    have h40 : (e_n 1 < J' 489 40) = (1 < T'.length) := by
      have := hD2.2.1
      rw [hD2.1, show (e_n 1) = e_n ((1 : Nat) : Nat) from rfl, e_n_ltN (by omega) (by omega)]
    rw [C208_29, if_pos (by rw [e0]; rfl), if_pos (show J' 489 20 = 0 from h202)]
    cases hx : Yexp b n 6 p with
    | inr e =>
      obtain ⟨g, q⟩ := e
      replace hso : SO b n 1 (Zr b n (n + 1) (some (true, 0)) p [] [] [false]) [] [] [false] (Yexp b n 6 p) := hso
      rw [hx, SO_er] at hso
      rcases hso with hso | ⟨hg, o2, W2, T2, hr, hl⟩
      · rw [e1] at hso; cases hso
      · rw [e1] at hr
        cases hr
        obtain ⟨K, w1, w2, w3, w4⟩ := wrongH (d := d + 4) (f := 1) (x := e_n 1) rfl h202 hR2 (by decide) (by decide)
        rw [if_pos (by rw [h40]; exact hl), w1, e_rV_n, C208_345]
        obtain ⟨K', v1, v2, v3⟩ := last K z' o' W' x u' (RO_fr hO2 (w3 512 (by decide)) (w3 513 (by decide)) (w4 38 (by decide) (by decide)) (w4 39 (by decide) (by decide))) (by omega) (by omega)
        refine ⟨K', z', v1, RFr_tr (RFr_tr c2 (RFr_wr w3 w4)) (RFr_of v3), c3, ?_⟩
        rw [XO_er, hg]
        exact RE_fr w2 (v3.2 20 (by decide) (by decide)) (v3.2 21 (by decide) (by decide))
    | inl r =>
      obtain ⟨q, a⟩ := r
      replace hso : SO b n 1 (Zr b n (n + 1) (some (true, 0)) p [] [] [false]) [] [] [false] (Yexp b n 6 p) := hso
      rw [hx, SO_in] at hso
      obtain ⟨f', a1', P, T2, s1, s2, s3, s4, s5, s6, s7, s8⟩ := hso
      obtain ⟨g1, g2, g3⟩ := YG_exp (b := b) (n := n) 6 _ _ _ hpn hx
      obtain ⟨f', rfl⟩ : ∃ g, f' = g + 1 := ⟨f' - 1, by omega⟩
      rw [nop_stop2 s8 (by rw [Zco_P P [] s4]; rfl), e1] at s2
      cases s2
      have hl1 : ¬ 1 < T'.length := by
        have := len_t s5 s6 (show 1 ≤ [false].length by simp)
        simp at this
        omega
      rw [if_neg (by rw [h40]; exact hl1)]
      obtain ⟨K', v1, v2, v3⟩ := last J' z' _ _ x u' hO2 (by omega) (by omega)
      refine ⟨K', z', v1, RFr_tr c2 (RFr_of v3), c3, ?_⟩
      rw [XO_in]
      have hz := Zdr_PL (L := 0) (o := ([] : List Int32) ++ enc a1') (PEND_mono (Nat.zero_le 1) (by decide) s4) LIM_nil
      rw [show (e_n 0) = e_n ((0 : Nat) : Nat) from rfl, hz] at v2
      have ha : [] ++ enc a1' ++ P.map rop = enc a := by rw [s3, enc_ap, enc_P P s4, List.nil_append]
      rw [ha] at v2
      have hlen : (enc a).length < 1399 := by
        rw [← ha]
        simp at hb2 ⊢
        omega
      exact ⟨TR_fr hR2 (v3.1 500 (by decide) (by decide) (by decide)) (fun k k1 k2 => v3.2 k (by omega) (by omega)), (v3.2 20 (by decide) (by decide)).trans h202, hlen, fun j hj => v2.2.1 j (by simp; omega)⟩
  · obtain ⟨hE, o2, W2, r1, r2, r3⟩ := e2
    rw [C208_29, if_neg (by rw [e0]; decide), if_neg (RE_ne hE)]
    obtain ⟨K', v1, v2, v3⟩ := last J' z' o2 W2 x u' r1 r2 r3
    refine ⟨K', z', v1, RFr_tr c2 (RFr_of v3), c3, ?_⟩
    cases hx : Yexp b n 6 p with
    | inr e =>
      obtain ⟨g2, q2⟩ := e
      replace hso : SO b n 1 (Zr b n (n + 1) (some (true, 0)) p [] [] [false]) [] [] [false] (Yexp b n 6 p) := hso
      rw [hx, SO_er] at hso
      rcases hso with hso | ⟨hg, o3, W3, T3, hr, hl⟩
      · rw [e1] at hso
        cases hso
        rw [XO_er]
        exact RE_fr hE (v3.2 20 (by decide) (by decide)) (v3.2 21 (by decide) (by decide))
      · rw [e1] at hr; cases hr
    | inl r =>
      obtain ⟨q2, a⟩ := r
      replace hso : SO b n 1 (Zr b n (n + 1) (some (true, 0)) p [] [] [false]) [] [] [false] (Yexp b n 6 p) := hso
      rw [hx, SO_in] at hso
      obtain ⟨f', a1', P, T2, s1, s2, s3, s4, s5, s6, s7, s8⟩ := hso
      obtain ⟨g1, g2, g3⟩ := YG_exp (b := b) (n := n) 6 _ _ _ hpn hx
      obtain ⟨f', rfl⟩ : ∃ g, f' = g + 1 := ⟨f' - 1, by omega⟩
      rw [nop_stop2 s8 (by rw [Zco_P P [] s4]; rfl), e1] at s2
      cases s2
-- the codes can be reckoned
def OKs (h : Nat) (a : List Int32) : Prop := ∀ r, okO (a ++ r) h = okO r (h + 1)
def OKX (h : Nat) (X : Nat → YR) : Prop := ∀ p q a, X p = .inl (q, a) → OKs h a
theorem ok_op {c : Int32} {h : Nat} (hc : c = e_n (-9) ∨ c = e_n (-10) ∨ c = e_n (-12) ∨ c = e_n (-13) ∨ c = e_n (-14) ∨ c = e_n (-15) ∨ c = e_n (-16) ∨ c = e_n (-17)) (r : List Int32) : okO (c :: r) (h + 2) = okO r (h + 1) := by
  show (cOK c (h + 2) && okO r (cH c (h + 2))) = okO r (h + 1)
  have h1 : cOK c (h + 2) = true := by
    unfold cOK
    rcases hc with rfl | rfl | rfl | rfl | rfl | rfl | rfl | rfl <;> simp (decide := true) only [if_true, if_false] <;> simp
  have h2 : cH c (h + 2) = h + 1 := by
    unfold cH
    rcases hc with rfl | rfl | rfl | rfl | rfl | rfl | rfl | rfl <;> simp (decide := true) only [if_true, if_false] <;> omega
  rw [h1, h2, Bool.true_and]
theorem ok_lp {b : Nat → Int32} {n h : Nat} {X : Nat → YR} {tok : Nat → Option Int32} (hX : OKX (h + 1) X) (hc : ∀ p c, tok p = some c → c = e_n (-9) ∨ c = e_n (-10) ∨ c = e_n (-12) ∨ c = e_n (-13) ∨ c = e_n (-14) ∨ c = e_n (-15) ∨ c = e_n (-16) ∨ c = e_n (-17)) : ∀ f p q a a2, OKs h a → Ylp b n X tok f p a = .inl (q, a2) → OKs h a2
  | 0, p, q, a, a2, ha, hy => by
    rw [Ylp_0] at hy
    cases hy
    exact ha
  | f + 1, p, q, a, a2, ha, hy => by
    rw [Ylp_s] at hy
    cases ht : tok p with
    | none => rw [ht, Yo_n] at hy; cases hy; exact ha
    | some c =>
      rw [ht, Yo_s] at hy
      cases hx : X (nxP b n p) with
      | inr e => rw [hx] at hy; cases hy
      | inl r =>
        obtain ⟨q1, a1⟩ := r
        rw [hx, Yb_l] at hy
        refine ok_lp hX hc f q1 q _ a2 (fun r => ?_) hy
        rw [List.append_assoc, List.append_assoc, ha, hX _ _ _ hx]
        exact ok_op (hc p c ht) r
theorem ok_b {b : Nat → Int32} {n h k : Nat} {X : Nat → YR} {tok : Nat → Option Int32} (hX0 : OKX h X) (hX : OKX (h + 1) X) (hc : ∀ p c, tok p = some c → c = e_n (-9) ∨ c = e_n (-10) ∨ c = e_n (-12) ∨ c = e_n (-13) ∨ c = e_n (-14) ∨ c = e_n (-15) ∨ c = e_n (-16) ∨ c = e_n (-17)) : OKX h (fun p => Yb (X p) (fun q a => Ylp b n X tok k q a)) := by
  intro p q a hy
  replace hy : Yb (X p) (fun q a => Ylp b n X tok k q a) = .inl (q, a) := hy
  cases hx : X p with
  | inr e => rw [hx] at hy; cases hy
  | inl r =>
    obtain ⟨q1, a1⟩ := r
    rw [hx, Yb_l] at hy
    exact ok_lp hX hc k q1 q a1 a (hX0 _ _ _ hx) hy
theorem ok_part {b : Nat → Int32} {n d h : Nat} (hs : OKX h (Yexp b n d)) (hh : h < 40) : OKX h (Ypart b n (Yexp b n d)) := by
  have one : ∀ c, ¬ c < e_n (-8) → OKs h [c] := by
    intro c hc r
    show (cOK c h && okO r (cH c h)) = okO r (h + 1)
    have h1 : cOK c h = true := by unfold cOK; rw [if_neg hc]; exact decide_eq_true hh
    have h2 : cH c h = h + 1 := by unfold cH; rw [if_neg hc]
    rw [h1, h2, Bool.true_and]
  intro p q a hy
  unfold Ypart at hy
  by_cases k1 : tkK b n p = 1
  · rw [if_pos k1] at hy
    by_cases hc : Yw b n p < 0 ∨ e_n 7 < Yw b n p
    · rw [if_pos hc] at hy; cases hy
    · rw [if_neg hc] at hy
      cases hy
      refine one _ ?_
      rcases Yw_v b n p with ⟨j, hj, e⟩ | e
      · rw [e]
        have h8 : j < 8 := by
          apply Decidable.byContradiction
          intro h8
          refine hc (Or.inr ?_)
          rw [e, show (e_n 7) = e_n ((7 : Nat) : Nat) from rfl, e_n_ltN (by omega) (by omega)]
          omega
        rw [e_n_sub, e_n_lt (by omega) (by omega) (by decide) (by decide)]
        omega
      · exact absurd (Or.inl (by rw [e]; decide)) hc
  · rw [if_neg k1] at hy
    by_cases k2 : tkK b n p = 2
    · rw [if_pos k2] at hy
      by_cases hc : 4 < Yln b n p
      · rw [if_pos hc] at hy; cases hy
      · rw [if_neg hc] at hy
        cases hy
        refine one _ ?_
        obtain ⟨v, v1, v2⟩ := Ynm_n k2 hc
        rw [v2, e_n_lt (by omega) (by omega) (by decide) (by decide)]
        omega
    · rw [if_neg k2] at hy
      by_cases k3 : Ysg b n p (e_n 40)
      · rw [if_pos k3] at hy
        cases hx : Yexp b n d (nxP b n p) with
        | inr e => rw [hx] at hy; cases hy
        | inl r =>
          obtain ⟨q1, a1⟩ := r
          rw [hx, Yb_l] at hy
          by_cases k4 : Ysg b n q1 (e_n 41)
          · rw [if_pos k4] at hy; cases hy; exact hs _ _ _ hx
          · rw [if_neg k4] at hy; cases hy
      · rw [if_neg k3] at hy; cases hy
theorem ok_not {b : Nat → Int32} {n h : Nat} {sub : Nat → YR} (hX : OKX h (Ytest b n sub)) : ∀ k, OKX h (Ynot b n sub k)
  | 0 => by
    intro p q a hy
    have e : Ynot b n sub 0 p = if Yw b n p = e_n ((16 : Nat) : Nat) then .inr (2, p) else Ytest b n sub p := rfl
    rw [e] at hy
    by_cases hw : Yw b n p = e_n ((16 : Nat) : Nat)
    · rw [if_pos hw] at hy; cases hy
    · rw [if_neg hw] at hy; exact hX _ _ _ hy
  | k + 1 => by
    intro p q a hy
    have e : Ynot b n sub (k + 1) p = if Yw b n p = e_n ((16 : Nat) : Nat) then Yb (Ynot b n sub k (nxP b n p)) (fun q a => .inl (q, a ++ [e_n (-11)])) else Ytest b n sub p := rfl
    rw [e] at hy
    by_cases hw : Yw b n p = e_n ((16 : Nat) : Nat)
    · rw [if_pos hw] at hy
      cases hx : Ynot b n sub k (nxP b n p) with
      | inr e => rw [hx] at hy; cases hy
      | inl r =>
        obtain ⟨q1, a1⟩ := r
        rw [hx, Yb_l] at hy
        cases hy
        intro r
        rw [List.append_assoc, ok_not hX k _ _ _ hx]
        show (cOK (e_n (-11)) (h + 1) && okO r (cH (e_n (-11)) (h + 1))) = okO r (h + 1)
        have h1 : cOK (e_n (-11)) (h + 1) = true := by unfold cOK; simp (decide := true) only [if_true, if_false]; simp
        have h2 : cH (e_n (-11)) (h + 1) = h + 1 := by unfold cH; simp (decide := true) only [if_true, if_false]
        rw [h1, h2, Bool.true_and]
    · rw [if_neg hw] at hy; exact hX _ _ _ hy
theorem ok_exp {b : Nat → Int32} {n : Nat} : ∀ d h, h + 5 * d ≤ 39 → OKX h (Yexp b n d)
  | 0, h, _ => fun p q a hy => by cases hy
  | d + 1, h, hh => by
    have ts : ∀ s1 s2 c1 c2, (c1 = e_n (-9) ∨ c1 = e_n (-10) ∨ c1 = e_n (-12) ∨ c1 = e_n (-13) ∨ c1 = e_n (-14) ∨ c1 = e_n (-15) ∨ c1 = e_n (-16) ∨ c1 = e_n (-17)) → (c2 = e_n (-9) ∨ c2 = e_n (-10) ∨ c2 = e_n (-12) ∨ c2 = e_n (-13) ∨ c2 = e_n (-14) ∨ c2 = e_n (-15) ∨ c2 = e_n (-16) ∨ c2 = e_n (-17)) → ∀ p c, Yts b n s1 s2 c1 c2 p = some c → c = e_n (-9) ∨ c = e_n (-10) ∨ c = e_n (-12) ∨ c = e_n (-13) ∨ c = e_n (-14) ∨ c = e_n (-15) ∨ c = e_n (-16) ∨ c = e_n (-17) := by
      intro s1 s2 c1 c2 h1 h2 p c hc
      rcases Yts_s hc with ⟨-, e⟩ | ⟨-, -, e⟩
      · rw [e]; exact h1
      · rw [e]; exact h2
    have tw : ∀ k c1, (c1 = e_n (-9) ∨ c1 = e_n (-10) ∨ c1 = e_n (-12) ∨ c1 = e_n (-13) ∨ c1 = e_n (-14) ∨ c1 = e_n (-15) ∨ c1 = e_n (-16) ∨ c1 = e_n (-17)) → ∀ p c, Ytw b n k c1 p = some c → c = e_n (-9) ∨ c = e_n (-10) ∨ c = e_n (-12) ∨ c = e_n (-13) ∨ c = e_n (-14) ∨ c = e_n (-15) ∨ c = e_n (-16) ∨ c = e_n (-17) := by
      intro k c1 h1 p c hc
      rw [(Ytw_s hc).2]; exact h1
    have a1 : ∀ g, g + 5 * d ≤ 39 → OKX g (Ypart b n (Yexp b n d)) := fun g hg => ok_part (ok_exp d g hg) (by omega)
    have a2 : ∀ g, g + 1 + 5 * d ≤ 39 → OKX g (Yprod b n (Yexp b n d)) := fun g hg => ok_b (k := 701) (a1 g (by omega)) (a1 (g + 1) hg) (ts _ _ _ _ (by decide) (by decide))
    have a3 : ∀ g, g + 2 + 5 * d ≤ 39 → OKX g (Ysum b n (Yexp b n d)) := fun g hg => ok_b (k := 701) (a2 g (by omega)) (a2 (g + 1) (by omega)) (ts _ _ _ _ (by decide) (by decide))
    have a4 : ∀ g, g + 3 + 5 * d ≤ 39 → OKX g (Ytest b n (Yexp b n d)) := fun g hg => ok_b (k := 1) (a3 g (by omega)) (a3 (g + 1) (by omega)) (ts _ _ _ _ (by decide) (by decide))
    have a5 : ∀ g, g + 3 + 5 * d ≤ 39 → OKX g (Ynot b n (Yexp b n d) 6) := fun g hg => ok_not (a4 g hg) 6
    have a6 : ∀ g, g + 4 + 5 * d ≤ 39 → OKX g (Yand b n (Yexp b n d)) := fun g hg => ok_b (k := 701) (a5 g (by omega)) (a5 (g + 1) (by omega)) (tw _ _ (by decide))
    exact ok_b (k := 701) (a6 h (by omega)) (a6 (h + 1) (by omega)) (tw _ _ (by decide))
theorem ok_rule {b : Nat → Int32} {n p q : Nat} {a : List Int32} (h : Yexp b n 6 p = .inl (q, a)) : okO a 0 = true := by
  have := ok_exp (b := b) (n := n) 6 0 (by decide) p q a h []
  rw [List.append_nil] at this
  rw [this]
  rfl
end S99zzb
