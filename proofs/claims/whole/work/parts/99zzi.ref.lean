/-! the reference reads a text -/
section S99zzi
theorem semi_r {d : Nat} {z : e_Z} {J : Nat → Nat → Int32} {b : Nat → Int32} {n : Nat} {X : YL} (hn : n ≤ 700) (h : RLo z J b n X) : ∃ J' z', e_E (d + 3) 194 [.ref 489, .int (tf ((J 489 25 = e_n 3) ∧ (J 489 29 = (e_n 59))))] (mk J z) = some (.inl none, mk J' z') ∧ NFr J J' ∧ LF z z' ∧ RLo z' J' b n (Lsm b n X) := by
  suffices hx : ∃ J' z', e_L (d + 2) 194 0 [.ref 489, .int (tf ((J 489 25 = e_n 3) ∧ (J 489 29 = (e_n 59))))] [] (mk J z) = some (.inl none, mk J' z') ∧ NFr J J' ∧ LF z z' ∧ RLo z' J' b n (Lsm b n X) by
    obtain ⟨J', z', e1, e2⟩ := hx
    exact ⟨J', z', e_E_ret (d := d + 2) e1, e2⟩
  unfold Lsm
  rw [C194_0]
  cases X with
  | inr e =>
    obtain ⟨f, q⟩ := e
    rw [RLo_er] at h
    rw [if_neg (RE_ne h), Yb_r]
    exact ⟨J, z, rfl, NFr_rf, LF_rf z, h⟩
  | inl r =>
    obtain ⟨q, B⟩ := r
    rw [RLo_in] at h
    rw [if_pos (RG_0 h.1), Yb_l]
    by_cases hs : Ysg b n q (e_n 59)
    · obtain ⟨J1, z1, a1, a2, a3, a4⟩ := rg_goes (d := d) hn h.1
      rw [tf_1 ((TR_s h.1.1).mpr hs), if_neg (by decide), if_pos hs, a1, e_rV_n, C194_16]
      exact ⟨J1, z1, rfl, NFr_g a3, a4, a2, RN_g h.2 a3⟩
    · obtain ⟨J1, a1, a2, a3⟩ := rg_wrong (d := d + 1) (f := 1) (x := e_n 1) rfl h.1 (by decide) (by decide)
      rw [tf_0 (fun q => hs ((TR_s h.1.1).mp q)), if_pos (by decide), if_neg hs, a1, e_rV_n, C194_24]
      exact ⟨J1, z, rfl, NFr_g a3, LF_rf z, a2⟩
theorem c215h {d n p : Nat} {b : Nat → Int32} {J : Nat → Nat → Int32} {z : e_Z} {B : e_B} (hn : n ≤ 700) (wb : WB B) (h : RG z J b n p) (hN : RN J B) : ∃ J' z', e_E (d + 7) 215 [.ref 489] (mk J z) = some (.inl none, mk J' z') ∧ NFr J J' ∧ LF z z' ∧ RLo z' J' b n (Yline b n B p) := by
  suffices hx : ∃ J' z', e_L (d + 6) 215 0 [.ref 489, .null] [] (mk J z) = some (.inl none, mk J' z') ∧ NFr J J' ∧ LF z z' ∧ RLo z' J' b n (Yline b n B p) by
    obtain ⟨J', z', e1, e2⟩ := hx
    exact ⟨J', z', e_E_ret (d := d + 6) e1, e2⟩
  have w1 := wb.1
  rw [C215_0, wkH (d := d + 3) hn h.1, e_rI_i, C215_4]
  unfold Yline
  by_cases w8 : Yw b n p = e_n ((8 : Nat) : Nat)
  · have w' : Yw b n p = e_n 8 := w8
    rw [if_pos w', if_pos w8]
    have e8 : (J 489 31 = e_n 3) ↔ bMa B = 3 := by rw [hN.1]; exact en_eq (c := 3) (by omega) (by decide)
    unfold Lma
    by_cases hm : bMa B = 3
    · obtain ⟨J1, a1, a2, a3⟩ := rg_wrong (d := d + 5) (f := 2) (x := e_n 2) rfl h (by decide) (by decide)
      rw [if_pos (e8.mpr hm), if_pos hm, a1, e_rV_n, C215_24, if_neg (RE_ne a2)]
      exact ⟨J1, z, rfl, NFr_g a3, LF_rf z, a2⟩
    · obtain ⟨J1, z1, a1, a2, a3, a4⟩ := rg_goes (d := d + 4) hn h
      have hN1 := RN_g hN a3
      obtain ⟨J2, z2, r, b1, b2, b3, b4⟩ := c195h (d := d + 3) (most := 999) (x := e_n 999) hn rfl (by decide) a2
      have hN2 := RN_g hN1 b3
      have j31 : J1 489 31 = e_n (bMa B : Nat) := hN1.1
      have i31 : J2 489 31 = e_n (bMa B : Nat) := hN2.1
      have i22 : e_n 31 + J1 489 31 = e_n ((31 + bMa B : Nat) : Nat) := by rw [j31, e_n_add]; congr 1
      rw [if_neg (fun q => hm (e8.mp q)), if_neg hm, if_pos (RG_0 h), a1, e_rV_n, C215_36, b1, e_rI_i, i22, C215_55 (InR_n (by omega) (by omega) (by omega)), e_n_nat' (by omega), i31, e_n_succ]
      cases hy : Ynum b n 999 (nxP b n p) with
      | inr e =>
        obtain ⟨f, q⟩ := e
        rw [hy, NRo_er] at b2
        rw [if_neg (RE_ne b2)]
        have hK : RLo z2 (e_u J2 511 (31 + bMa B) r) b n (.inr (f, q)) := RE_fr b2 (by rw [e_u_na (by decide)]) (by rw [e_u_na (by decide)])
        obtain ⟨J3, z3, c1, c2, c3, c4⟩ := semi_r (d := d + 3) hn hK
        rw [c1, e_rV_n, C215_232]
        exact ⟨J3, z3, rfl, NFr_tr (NFr_tr (NFr_g (GFr_tr a3 b3)) ⟨fun r r1 r2 => by rw [e_u_na (by omega)], fun k hk => by rw [e_u_na (by decide)]⟩) c2, LF_tr (LF_tr a4 b4) c3, c4⟩
      | inl rr =>
        obtain ⟨q, v⟩ := rr
        rw [hy, NRo_in] at b2
        obtain ⟨rfl, b2⟩ := b2
        rw [if_pos (RG_0 b2)]
        have hK : RLo z2 (e_u (e_u J2 511 (31 + bMa B) (e_n (v : Nat))) 489 31 (e_n ((bMa B + 1 : Nat) : Nat))) b n (.inl (q, adMa B v)) := ⟨RG_fr b2 (by rw [e_u_na (by decide), e_u_na (by decide)]) (fun k k1 k2 => by rw [e_u_ne (by omega), e_u_na (by decide)]), RN_ma wb hN2⟩
        obtain ⟨J3, z3, c1, c2, c3, c4⟩ := semi_r (d := d + 3) hn hK
        rw [c1, e_rV_n, C215_232]
        exact ⟨J3, z3, rfl, NFr_tr (NFr_tr (NFr_g (GFr_tr a3 b3)) ⟨fun r r1 r2 => by rw [e_u_na r1, e_u_na (by omega)], fun k hk => by rw [e_u_ne (by omega), e_u_na (by decide)]⟩) c2, LF_tr (LF_tr a4 b4) c3, c4⟩
  rw [if_neg (show ¬ Yw b n p = e_n 8 from w8), if_neg w8]
  by_cases w9 : Yw b n p = e_n ((9 : Nat) : Nat)
  · have w' : Yw b n p = e_n 9 := w9
    obtain ⟨J1, z1, a1, a2, a3, a4⟩ := c209p (d := d + 2) hn wb h hN
    obtain ⟨J2, z2, b1, b2, b3, b4⟩ := semi_r (d := d + 3) hn a4
    rw [if_pos w', if_pos w9, tf_0 (show ¬ Yw b n p = e_n 10 by rw [w']; decide), a1, e_rV_n, C215_103, b1, e_rV_n, C215_232]
    exact ⟨J2, z2, rfl, NFr_tr a2 b2, LF_tr a3 b3, b4⟩
  rw [if_neg (show ¬ Yw b n p = e_n 9 from w9), if_neg w9]
  by_cases w10 : Yw b n p = e_n ((10 : Nat) : Nat)
  · have w' : Yw b n p = e_n 10 := w10
    obtain ⟨J1, z1, a1, a2, a3, a4⟩ := c209s (d := d + 2) hn wb h hN
    obtain ⟨J2, z2, b1, b2, b3, b4⟩ := semi_r (d := d + 3) hn a4
    rw [if_pos w', if_pos w10, a1, e_rV_n, C215_103, b1, e_rV_n, C215_232]
    exact ⟨J2, z2, rfl, NFr_tr a2 b2, LF_tr a3 b3, b4⟩
  rw [if_neg (show ¬ Yw b n p = e_n 10 from w10), if_neg w10]
  by_cases w11 : Yw b n p = e_n ((11 : Nat) : Nat)
  · have w' : Yw b n p = e_n 11 := w11
    obtain ⟨J1, z1, a1, a2, a3, a4⟩ := c211h (d := d + 2) hn wb h hN
    obtain ⟨J2, z2, b1, b2, b3, b4⟩ := semi_r (d := d + 3) hn a4
    rw [if_pos w', if_pos w11, a1, e_rV_n, C215_116, b1, e_rV_n, C215_232]
    exact ⟨J2, z2, rfl, NFr_tr a2 b2, LF_tr a3 b3, b4⟩
  rw [if_neg (show ¬ Yw b n p = e_n 11 from w11), if_neg w11]
  by_cases w12 : Yw b n p = e_n ((12 : Nat) : Nat)
  · have w' : Yw b n p = e_n 12 := w12
    obtain ⟨J1, z1, a1, a2, a3, a4⟩ := c212h (d := d + 2) hn wb h hN
    obtain ⟨J2, z2, b1, b2, b3, b4⟩ := semi_r (d := d + 3) hn a4
    rw [if_pos w', if_pos w12, a1, e_rV_n, C215_129, b1, e_rV_n, C215_232]
    exact ⟨J2, z2, rfl, NFr_tr a2 b2, LF_tr a3 b3, b4⟩
  rw [if_neg (show ¬ Yw b n p = e_n 12 from w12), if_neg w12]
  by_cases w4 : Yw b n p = e_n ((4 : Nat) : Nat)
  · have w' : Yw b n p = e_n 4 := w4
    obtain ⟨J1, z1, a1, a2, a3, a4⟩ := c213h (d := d + 2) hn wb h hN
    obtain ⟨J2, z2, b1, b2, b3, b4⟩ := semi_r (d := d + 3) hn a4
    rw [if_pos w', if_pos w4, a1, e_rV_n, C215_141, b1, e_rV_n, C215_232]
    exact ⟨J2, z2, rfl, NFr_tr a2 b2, LF_tr a3 b3, b4⟩
  rw [if_neg (show ¬ Yw b n p = e_n 4 from w4), if_neg w4]
  by_cases w3 : Yw b n p = e_n ((3 : Nat) : Nat)
  · have w' : Yw b n p = e_n 3 := w3
    obtain ⟨J1, z1, a1, a2, a3, a4⟩ := c214h (d := d + 2) (is := e_n 1) hn wb h hN
    obtain ⟨J2, z2, b1, b2, b3, b4⟩ := semi_r (d := d + 3) hn a4
    rw [if_pos w', if_pos w3, a1, e_rV_n, C215_168, b1, e_rV_n, C215_232]
    exact ⟨J2, z2, rfl, NFr_tr a2 b2, LF_tr a3 b3, b4⟩
  rw [if_neg (show ¬ Yw b n p = e_n 3 from w3), if_neg w3]
  by_cases w2 : Yw b n p = e_n ((2 : Nat) : Nat)
  · have w' : Yw b n p = e_n 2 := w2
    obtain ⟨J1, z1, a1, a2, a3, a4⟩ := c214h (d := d + 2) (is := e_n 0) hn wb h hN
    obtain ⟨J2, z2, b1, b2, b3, b4⟩ := semi_r (d := d + 3) hn a4
    rw [if_pos w', if_pos w2, a1, e_rV_n, C215_168, b1, e_rV_n, C215_232]
    exact ⟨J2, z2, rfl, NFr_tr a2 b2, LF_tr a3 b3, b4⟩
  rw [if_neg (show ¬ Yw b n p = e_n 2 from w2), if_neg w2]
  by_cases w13 : Yw b n p = e_n ((13 : Nat) : Nat)
  · have w' : Yw b n p = e_n 13 := w13
    rw [if_pos w', if_pos w13]
    have k1 : tkK b n p = 1 := Yw_1 (k := 13) (by decide) w13
    unfold Lru
    by_cases hO : bO B = []
    · have h37 : J 489 37 = e_n (-1) := by rw [hN.2.2.2.2.2.2.1, if_pos hO]
      obtain ⟨J1, z1, a1, a2, a3, a4⟩ := rg_goes (d := d + 4) hn h
      have hN1 := RN_g hN a3
      have h38 : J1 489 38 = e_n 0 := hN1.2.2.2.2.2.2.2.1 hO
      have hp2 : 2 ≤ nxP b n p := by
        obtain ⟨p1, p2, p3⟩ := tk_1 k1
        rcases Yw_w k1 with ⟨k, hk, e1, -, e3⟩ | ⟨e1, -⟩
        · have hk13 : k = 13 := by
            rw [w13, en_eq (by omega) (by omega)] at e1
            omega
          have : rl 13 = 6 := rfl
          rw [hk13, this] at e3
          have h3 := (skB_n (b := b) (tkE_n (b := b) (Nat.le_of_lt p1)).2).1
          have : skB b n (tkE b n p) = nxP b n p := rfl
          omega
        · rw [w13] at e1; exact absurd e1 (by decide)
      have kr : ∀ r, r ≠ 489 → (e_u J1 489 37 (J1 489 38)) r = J1 r := fun r hr => e_u_na hr
      have k9 : ∀ k, k ≠ 37 → (e_u J1 489 37 (J1 489 38)) 489 k = J1 489 k := fun k hk => e_u_ne hk
      obtain ⟨J2, z2, b1, b2, b3, b4⟩ := c208h (d := d) (J := e_u J1 489 37 (J1 489 38)) (z := z1) hn (TR_fr a2.1 (kr 500 (by decide)) (fun k q1 q2 => k9 k (by omega))) ((k9 20 (by decide)).trans a2.2) ((k9 38 (by decide)).trans h38) hp2
      have hfr : NFr J J2 := NFr_tr (NFr_tr (NFr_g a3) ⟨fun r r1 r2 => kr r r1, fun k hk => k9 k (by omega)⟩) (NFr_r b2)
      have hX : RLo z2 J2 b n (Yb (Yexp b n 6 (nxP b n p)) (fun q a => .inl (q, stO B a))) := by
        cases hx : Yexp b n 6 (nxP b n p) with
        | inr e =>
          obtain ⟨f, q⟩ := e
          rw [hx, XO_er] at b4
          exact b4
        | inl r =>
          obtain ⟨q, a⟩ := r
          rw [hx, XO_in] at b4
          obtain ⟨x1, x2, x3, x4⟩ := b4
          obtain ⟨g1, g2, g3⟩ := YG_exp (b := b) (n := n) 6 _ _ _ a2.1.1 hx
          have hne : ¬ a = [] := fun q => by rw [q] at g3; exact absurd g3 (by decide)
          rw [Yb_l, RLo_in]
          refine ⟨⟨x1, x2⟩, ?_⟩
          obtain ⟨h1, h2, h3, h4, h5, h6, h7, h8, h9, h10, h11, h12, h13, h14⟩ := hN1
          have c9 : ∀ k, 31 ≤ k → k < 37 → J2 489 k = J1 489 k := fun k q1 q2 => (b2.2 k (by omega)).trans (k9 k (by omega))
          have cr : ∀ r, 502 ≤ r → r < 512 → J2 r = J1 r := fun r q1 q2 => (b2.1 r (by omega) (by omega) (by omega) (by omega)).trans (kr r (by omega))
          have c37 : J2 489 37 = e_n 0 := (b2.2 37 (by omega)).trans (by rw [e_u_same]; exact h38)
          unfold RN
          rw [c9 31 (by decide) (by decide), c9 32 (by decide) (by decide), c9 33 (by decide) (by decide), c9 34 (by decide) (by decide), c9 35 (by decide) (by decide), c9 36 (by decide) (by decide), c37, cr 502 (by decide) (by decide), cr 503 (by decide) (by decide), cr 504 (by decide) (by decide), cr 505 (by decide) (by decide), cr 506 (by decide) (by decide), cr 507 (by decide) (by decide), cr 508 (by decide) (by decide), cr 509 (by decide) (by decide), cr 510 (by decide) (by decide), cr 511 (by decide) (by decide)]
          exact ⟨h1, h2, h3, h4, h5, h6, (if_neg hne).symm, fun q => absurd q hne, h9, h10, h11, h12, h13, fun _ => ⟨x3, x4⟩⟩
      obtain ⟨J3, z3, c1, c2, c3, c4⟩ := semi_r (d := d + 3) hn hX
      have hOO : ¬ ¬ bO B = [] := fun q => q hO
      rw [if_pos h37, if_neg hOO, if_pos (RG_0 h), a1, e_rV_n, C215_202, b1, e_rV_n, C215_214, c1, e_rV_n, C215_232]
      exact ⟨J3, z3, rfl, NFr_tr hfr c2, LF_tr (LF_tr a4 b3) c3, c4⟩
    · have h37 : ¬ J 489 37 = e_n (-1) := by rw [hN.2.2.2.2.2.2.1, if_neg hO]; decide
      obtain ⟨J1, a1, a2, a3⟩ := rg_wrong (d := d + 5) (f := 5) (x := e_n 5) rfl h (by decide) (by decide)
      rw [if_neg h37, if_pos hO, a1, e_rV_n, C215_190, if_neg (RE_ne a2)]
      exact ⟨J1, z, rfl, NFr_g a3, LF_rf z, a2⟩
  rw [if_neg (show ¬ Yw b n p = e_n 13 from w13), if_neg w13]
  obtain ⟨J1, a1, a2, a3⟩ := rg_wrong (d := d + 5) (f := 1) (x := e_n 1) rfl h (by decide) (by decide)
  have hX : RLo z J1 b n (.inr (1, p)) := a2
  obtain ⟨J3, z3, c1, c2, c3, c4⟩ := semi_r (d := d + 3) hn hX
  rw [a1, e_rV_n, C215_222, c1, e_rV_n, C215_232]
  exact ⟨J3, z3, rfl, NFr_tr (NFr_g a3) c2, c3, c4⟩
/-- the loop over lines -/
theorem c216l {d n : Nat} {b : Nat → Int32} {x1 : Int32} (hn : n ≤ 700) : ∀ (f p : Nat) (B : e_B) (J : Nat → Nat → Int32) (z : e_Z), n < p + f → WB B → RG z J b n p → RN J B →
    ∃ J' z', e_L (d + 7) 216 101 [.ref 489, .int x1, .null] [] (mk J z) = e_L (d + 7) 216 101 [.ref 489, .int x1, .null] [] (mk J' z') ∧ NFr J J' ∧ LF z z' ∧ RLo z' J' b n (Ybrd b n f B p) ∧ ∀ q B', Ybrd b n f B p = .inl (q, B') → tkK b n q = 0 := by
  intro f
  induction f with
  | zero =>
    intro p B J z hf wb h hN
    have := h.1.1
    omega
  | succ f ih =>
    intro p B J z hf wb h hN
    have hp := h.1.1
    rw [Ybrd_s]
    by_cases k0 : tkK b n p = 0
    · rw [if_pos k0]
      exact ⟨J, z, rfl, NFr_rf, LF_rf z, ⟨h, hN⟩, fun q B' hq => by cases hq; exact k0⟩
    · rw [if_neg k0]
      obtain ⟨J1, z1, a1, a2, a3, a4⟩ := c215h (d := d) hn wb h hN
      have hstep : e_L (d + 7) 216 101 [.ref 489, .int x1, .null] [] (mk J z) = e_L (d + 7) 216 101 [.ref 489, .int x1, .null] [] (mk J1 z1) := by
        rw [C216_101, if_pos (RG_0 h), if_neg (fun q => k0 ((TR_0 h.1).mp q)), a1, e_rV_n, C216_119]
      cases hy : Yline b n B p with
      | inr e =>
        obtain ⟨g, q⟩ := e
        rw [hy, RLo_er] at a4
        rw [Yb_r]
        exact ⟨J1, z1, hstep, a2, a3, a4, fun q B' hq => by cases hq⟩
      | inl r =>
        obtain ⟨q, B1⟩ := r
        obtain ⟨v1, v2, v3⟩ := LG_line hn hp wb q B1 hy
        rw [hy, RLo_in] at a4
        rw [Yb_l]
        obtain ⟨J2, z2, b1, b2, b3, b4, b5⟩ := ih q B1 J1 z1 (by omega) v1 a4.1 a4.2
        exact ⟨J2, z2, hstep.trans b1, NFr_tr a2 b2, LF_tr a3 b3, b4, b5⟩
end S99zzi
