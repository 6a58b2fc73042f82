/-! the reference reads lines -/
section S99zzh
def NFr (J J' : Nat → Nat → Int32) : Prop := (∀ r, r ≠ 489 → (r < 502 ∨ 514 < r) → J' r = J r) ∧ ∀ k, (k < 20 ∨ k = 22 ∨ k = 23 ∨ k = 30 ∨ 40 < k) → J' 489 k = J 489 k
theorem NFr_rf {J : Nat → Nat → Int32} : NFr J J := ⟨fun _ _ _ => rfl, fun _ _ => rfl⟩
theorem NFr_tr {a b c : Nat → Nat → Int32} (h : NFr a b) (g : NFr b c) : NFr a c := ⟨fun r h1 h2 => (g.1 r h1 h2).trans (h.1 r h1 h2), fun k h1 => (g.2 k h1).trans (h.2 k h1)⟩
theorem NFr_g {a b : Nat → Nat → Int32} (h : GFr a b) : NFr a b := ⟨fun r h1 _ => h.1 r h1, fun k hk => h.2 k (by omega) (by omega) (by omega)⟩
theorem NFr_r {a b : Nat → Nat → Int32} (h : RFr a b) : NFr a b := ⟨fun r h1 h2 => h.1 r h1 (by omega) (by omega) (by omega), fun k hk => h.2 k (by omega)⟩
theorem RG_fr {z : e_Z} {J J' : Nat → Nat → Int32} {b : Nat → Int32} {n p : Nat} (h : RG z J b n p) (h5 : J' 500 = J 500) (h9 : ∀ k, 20 ≤ k → k ≤ 29 → J' 489 k = J 489 k) : RG z J' b n p := ⟨TR_fr h.1 h5 (fun k k1 k2 => h9 k (by omega) k2), (h9 20 (by decide) (by decide)).trans h.2⟩
def RLo (z : e_Z) (J : Nat → Nat → Int32) (b : Nat → Int32) (n : Nat) (x : YL) : Prop := match x with
  | .inl q => RG z J b n q.1 ∧ RN J q.2
  | .inr e => RE J e.1 e.2
theorem RLo_in {z : e_Z} {J : Nat → Nat → Int32} {b : Nat → Int32} {n q : Nat} {B : e_B} : RLo z J b n (.inl (q, B)) = (RG z J b n q ∧ RN J B) := rfl
theorem RLo_er {z : e_Z} {J : Nat → Nat → Int32} {b : Nat → Int32} {n f q : Nat} : RLo z J b n (.inr (f, q)) = RE J f q := rfl
theorem en_eq {a c : Nat} (ha : a < 2147483648) (hc : c < 2147483648) : (e_n (a : Nat) = e_n (c : Nat)) ↔ a = c := by
  rw [e_n_inj (by omega) (by omega) (by omega) (by omega)]; omega
theorem c209p {d n p : Nat} {b : Nat → Int32} {J : Nat → Nat → Int32} {z : e_Z} {B : e_B} (hn : n ≤ 700) (wb : WB B) (h : RG z J b n p) (hN : RN J B) : ∃ J' z', e_E (d + 4) 209 [.ref 489, .int (e_n 0)] (mk J z) = some (.inl none, mk J' z') ∧ NFr J J' ∧ LF z z' ∧ RLo z' J' b n (Lpl b n B p) := by
  suffices hx : ∃ J' z', e_L (d + 3) 209 0 [.ref 489, .int (e_n 0)] [] (mk J z) = some (.inl none, mk J' z') ∧ NFr J J' ∧ LF z z' ∧ RLo z' J' b n (Lpl b n B p) by
    obtain ⟨J', z', e1, e2⟩ := hx
    exact ⟨J', z', e_E_ret (d := d + 3) e1, e2⟩
  have w2 := wb.2.1
  have e8 : (J 489 32 = e_n 8) ↔ bPl B = 8 := by rw [hN.2.1]; exact en_eq (c := 8) (by omega) (by decide)
  unfold Lpl
  rw [C209_0]
  by_cases hm : bPl B = 8
  · obtain ⟨J1, a1, a2, a3⟩ := rg_wrong (d := d + 2) (f := 2) (x := e_n 2) rfl h (by decide) (by decide)
    rw [if_pos (e8.mpr hm), if_pos hm, a1, e_rV_n, C209_14, if_neg (RE_ne a2)]
    exact ⟨J1, z, rfl, NFr_g a3, LF_rf z, a2⟩
  · obtain ⟨J1, z1, a1, a2, a3, a4⟩ := rg_goes (d := d + 1) hn h
    obtain ⟨J2, z2, r, b1, b2, b3, b4⟩ := c195h (d := d) (most := 9) (x := e_n 9) hn rfl (by decide) a2
    have hN1 := RN_g hN a3
    have hN2 := RN_g hN1 b3
    have hi : J1 489 32 = e_n (bPl B : Nat) := hN1.2.1
    rw [if_neg (fun q => hm (e8.mp q)), if_neg hm, if_pos (RG_0 h), a1, e_rV_n, C209_26 (x1 := e_n 0) (fun q => absurd (show e_n 0 = 0 from rfl) q), if_pos (by decide), b1, e_rI_i, hi, C209_49 (InR_n (by omega) (by omega) (by omega)), e_n_nat' (by omega)]
    cases hy : Ynum b n 9 (nxP b n p) with
    | inr e =>
      obtain ⟨f, q⟩ := e
      rw [hy, NRo_er] at b2
      rw [if_neg (RE_ne b2), Yb_r]
      refine ⟨_, z2, rfl, NFr_tr (NFr_g (GFr_tr a3 b3)) ⟨fun r r1 r2 => by rw [e_u_na (by omega)], fun k hk => by rw [e_u_na (by decide)]⟩, LF_tr a4 b4, RE_fr b2 (by rw [e_u_na (by decide)]) (by rw [e_u_na (by decide)])⟩
    | inl rr =>
      obtain ⟨q, v⟩ := rr
      rw [hy, NRo_in] at b2
      obtain ⟨rfl, b2⟩ := b2
      have h32 : J2 489 32 = e_n (bPl B : Nat) := hN2.2.1
      rw [if_pos (RG_0 b2), Yb_l, h32, e_n_succ]
      refine ⟨_, z2, rfl, NFr_tr (NFr_g (GFr_tr a3 b3)) ⟨fun r r1 r2 => by rw [e_u_na r1, e_u_na (by omega)], fun k hk => by rw [e_u_ne (by omega), e_u_na (by decide)]⟩, LF_tr a4 b4, RG_fr b2 (by rw [e_u_na (by decide), e_u_na (by decide)]) (fun k k1 k2 => by rw [e_u_ne (by omega), e_u_na (by decide)]), RN_pl hN2⟩
theorem c209s {d n p : Nat} {b : Nat → Int32} {J : Nat → Nat → Int32} {z : e_Z} {B : e_B} (hn : n ≤ 700) (wb : WB B) (h : RG z J b n p) (hN : RN J B) : ∃ J' z', e_E (d + 4) 209 [.ref 489, .int (e_n 1)] (mk J z) = some (.inl none, mk J' z') ∧ NFr J J' ∧ LF z z' ∧ RLo z' J' b n (Lse b n B p) := by
  suffices hx : ∃ J' z', e_L (d + 3) 209 0 [.ref 489, .int (e_n 1)] [] (mk J z) = some (.inl none, mk J' z') ∧ NFr J J' ∧ LF z z' ∧ RLo z' J' b n (Lse b n B p) by
    obtain ⟨J', z', e1, e2⟩ := hx
    exact ⟨J', z', e_E_ret (d := d + 3) e1, e2⟩
  have w2 := wb.2.1
  have e8 : (J 489 32 = e_n 8) ↔ bPl B = 8 := by rw [hN.2.1]; exact en_eq (c := 8) (by omega) (by decide)
  unfold Lse
  rw [C209_0]
  by_cases hm : bPl B = 8
  · obtain ⟨J1, a1, a2, a3⟩ := rg_wrong (d := d + 2) (f := 2) (x := e_n 2) rfl h (by decide) (by decide)
    rw [if_pos (e8.mpr hm), if_pos hm, a1, e_rV_n, C209_14, if_neg (RE_ne a2)]
    exact ⟨J1, z, rfl, NFr_g a3, LF_rf z, a2⟩
  · obtain ⟨J1, z1, a1, a2, a3, a4⟩ := rg_goes (d := d + 1) hn h
    have hN1 := RN_g hN a3
    have hi : J1 489 32 = e_n (bPl B : Nat) := hN1.2.1
    rw [if_neg (fun q => hm (e8.mp q)), if_neg hm, if_pos (RG_0 h), a1, e_rV_n, C209_26 (fun _ => by rw [hi]; exact InR_n (by omega) (by omega) (by omega)), if_neg (by decide), if_pos (RG_0 a2), hi, e_n_nat' (by omega), e_n_succ]
    exact ⟨_, z1, rfl, NFr_tr (NFr_g a3) ⟨fun r r1 r2 => by rw [e_u_na r1, e_u_na (by omega)], fun k hk => by rw [e_u_ne (by omega), e_u_na (by decide)]⟩, a4, RG_fr a2 (by rw [e_u_na (by decide), e_u_na (by decide)]) (fun k k1 k2 => by rw [e_u_ne (by omega), e_u_na (by decide)]), RN_pl hN1⟩
def anyU (f : Nat → Bool) : Nat → Nat → Bool
  | 0, _ => false
  | k + 1, i => f i || anyU f k (i + 1)
theorem anyU_i {f : Nat → Bool} : ∀ n i, (anyU f n i = true) ↔ ∃ k, i ≤ k ∧ k < i + n ∧ f k = true
  | 0, i => ⟨fun h => (by cases h), fun ⟨k, h1, h2, _⟩ => by omega⟩
  | n + 1, i => by
    have e : anyU f (n + 1) i = (f i || anyU f n (i + 1)) := rfl
    rw [e, Bool.or_eq_true, anyU_i n (i + 1)]
    constructor
    · rintro (h | ⟨k, h1, h2, h⟩)
      · exact ⟨i, Nat.le_refl i, by omega, h⟩
      · exact ⟨k, by omega, by omega, h⟩
    · rintro ⟨k, h1, h2, h⟩
      by_cases hkn : k = i
      · rw [hkn] at h; exact Or.inl h
      · exact Or.inr ⟨k, by omega, by omega, h⟩
theorem anyU_B {f : Nat → Bool} {n : Nat} : anyU f n 0 = anyB f n := by
  have h : (anyU f n 0 = true) ↔ anyB f n = true := by
    rw [anyU_i, anyB_i]
    constructor
    · rintro ⟨k, -, h2, h⟩
      exact ⟨k, by omega, h⟩
    · rintro ⟨k, h2, h⟩
      exact ⟨k, by omega, by omega, h⟩
  cases h1 : anyU f n 0 with
  | true => rw [h.mp h1]
  | false =>
    cases h2 : anyB f n with
    | false => rfl
    | true => rw [h.mpr h2] at h1; cases h1
theorem c210h {d a v : Nat} {J : Nat → Nat → Int32} {z : e_Z} {B : e_B} (wb : WB B) (hN : RN J B) : e_E (d + 1) 210 [.ref 489, .int (e_n (a : Nat)), .int (e_n (v : Nat))] (mk J z) = some (.inl (some (.int (if hwy B a v = true then e_n 1 else e_n 0))), mk J z) := by
  have w3 := wb.2.2.1
  have h33 : J 489 33 = e_n (bWy B : Nat) := hN.2.2.1
  have hrow := hN.2.2.2.2.2.2.2.2.2.1
  generalize hg : (fun w => decide (bR B 2 w = e_n (a : Nat) ∧ bR B 3 w = e_n (v : Nat)) || decide (bR B 2 w = e_n (v : Nat) ∧ bR B 3 w = e_n (a : Nat))) = g
  have hgi : ∀ w, (g w = true) ↔ ((bR B 2 w = e_n (a : Nat) ∧ bR B 3 w = e_n (v : Nat)) ∨ (bR B 2 w = e_n (v : Nat) ∧ bR B 3 w = e_n (a : Nat))) := fun w => by rw [← hg, Bool.or_eq_true, decide_eq_true_eq, decide_eq_true_eq]
  have hh : hwy B a v = anyU g (bWy B) 0 := by rw [anyU_B, ← hg]; rfl
  rw [hh]
  have loop : ∀ f i, i + f = bWy B → e_L d 210 2 [.ref 489, .int (e_n (a : Nat)), .int (e_n (v : Nat)), .int (e_n (i : Nat))] [] (mk J z) = some (.inl (some (.int (if anyU g f i = true then e_n 1 else e_n 0))), mk J z) := by
    intro f
    induction f with
    | zero =>
      intro i hi
      have hlt : ¬ e_n (i : Nat) < J 489 33 := by rw [h33, e_n_ltN (by omega) (by omega)]; omega
      rw [C210_2 (fun q => absurd q hlt), if_neg hlt]
      rfl
    | succ f ih =>
      intro i hi
      have hlt : e_n (i : Nat) < J 489 33 := by rw [h33, e_n_ltN (by omega) (by omega)]; omega
      obtain ⟨r3, r4, -⟩ := hrow i (by omega)
      have e : anyU g (f + 1) i = (g i || anyU g f (i + 1)) := rfl
      have hG := hgi i
      rw [C210_2 (fun _ => InR_n (by omega) (by omega) (by omega)), if_pos hlt, e_n_nat' (by omega), r3, r4, e_n_succ, ih (i + 1) (by omega), e]
      by_cases g1 : g i = true
      · rw [g1, Bool.true_or, if_pos rfl]
        rcases hG.mp g1 with ⟨q1, q2⟩ | ⟨q1, q2⟩
        · rw [if_pos q1, if_pos q2]
        · by_cases q3 : bR B 2 i = e_n (a : Nat)
          · rw [if_pos q3]
            by_cases q4 : bR B 3 i = e_n (v : Nat)
            · rw [if_pos q4]
            · rw [if_neg q4, if_pos q1, if_pos q2]
          · rw [if_neg q3, if_pos q1, if_pos q2]
      · have g2 : g i = false := by simpa using g1
        rw [g2, Bool.false_or]
        have n1 : ¬ (bR B 2 i = e_n (a : Nat) ∧ bR B 3 i = e_n (v : Nat)) := fun q => g1 (hG.mpr (Or.inl q))
        have n2 : ¬ (bR B 2 i = e_n (v : Nat) ∧ bR B 3 i = e_n (a : Nat)) := fun q => g1 (hG.mpr (Or.inr q))
        by_cases q3 : bR B 2 i = e_n (a : Nat)
        · rw [if_pos q3, if_neg (fun q => n1 ⟨q3, q⟩)]
          by_cases q5 : bR B 2 i = e_n (v : Nat)
          · rw [if_pos q5, if_neg (fun q => n2 ⟨q5, q⟩)]
          · rw [if_neg q5]
        · rw [if_neg q3]
          by_cases q5 : bR B 2 i = e_n (v : Nat)
          · rw [if_pos q5, if_neg (fun q => n2 ⟨q5, q⟩)]
          · rw [if_neg q5]
  refine e_E_ret (d := d) ?_
  show e_L d 210 0 [.ref 489, .int (e_n (a : Nat)), .int (e_n (v : Nat)), .null] [] (mk J z) = _
  rw [C210_0]
  exact loop (bWy B) 0 (by omega)
theorem c211h {d n p : Nat} {b : Nat → Int32} {J : Nat → Nat → Int32} {z : e_Z} {B : e_B} (hn : n ≤ 700) (wb : WB B) (h : RG z J b n p) (hN : RN J B) : ∃ J' z', e_E (d + 4) 211 [.ref 489] (mk J z) = some (.inl none, mk J' z') ∧ NFr J J' ∧ LF z z' ∧ RLo z' J' b n (Lwy b n B p) := by
  suffices hx : ∃ J' z', e_L (d + 3) 211 0 [.ref 489, .null] [] (mk J z) = some (.inl none, mk J' z') ∧ NFr J J' ∧ LF z z' ∧ RLo z' J' b n (Lwy b n B p) by
    obtain ⟨J', z', e1, e2⟩ := hx
    exact ⟨J', z', e_E_ret (d := d + 3) e1, e2⟩
  have w2 := wb.2.1
  have w3 := wb.2.2.1
  have e8 : (J 489 33 = e_n 12) ↔ bWy B = 12 := by rw [hN.2.2.1]; exact en_eq (c := 12) (by omega) (by decide)
  unfold Lwy
  rw [C211_0]
  by_cases hm : bWy B = 12
  · obtain ⟨J1, a1, a2, a3⟩ := rg_wrong (d := d + 2) (f := 2) (x := e_n 2) rfl h (by decide) (by decide)
    rw [if_pos (e8.mpr hm), if_pos hm, a1, e_rV_n, C211_14, if_neg (RE_ne a2)]
    exact ⟨J1, z, rfl, NFr_g a3, LF_rf z, a2⟩
  · obtain ⟨J1, z1, a1, a2, a3, a4⟩ := rg_goes (d := d + 1) hn h
    have hN1 := RN_g hN a3
    obtain ⟨J2, z2, r, b1, b2, b3, b4⟩ := c197h (d := d) (told := bPl B) (x := J1 489 32) hn hN1.2.1 (by omega) a2
    have hN2 := RN_g hN1 b3
    rw [if_neg (fun q => hm (e8.mp q)), if_neg hm, if_pos (RG_0 h), a1, e_rV_n, C211_26, b1, e_rI_i, C211_34]
    cases hy : Yone b n (bPl B) nob (nxP b n p) with
    | inr e =>
      obtain ⟨f, q⟩ := e
      rw [hy, NRo_er] at b2
      rw [c196f (d := d + 1) b2, e_rI_i, C211_43, if_pos (by decide), Yb_r]
      exact ⟨J2, z2, rfl, NFr_g (GFr_tr a3 b3), LF_tr a4 b4, b2⟩
    | inl rr =>
      obtain ⟨q, a⟩ := rr
      rw [hy, NRo_in] at b2
      obtain ⟨rfl, b2⟩ := b2
      obtain ⟨-, -, ha, -⟩ := Yone_i hy
      obtain ⟨J3, r3, c1, c2, c3⟩ := c196h (d := d + 1) (told := bPl B) (x := J2 489 32) hn hN2.2.1 (by omega) b2
      rw [c1, e_rI_i, Yb_l, Yone_h, C211_43]
      cases hy2 : Yher b n (bPl B) q with
      | inr e =>
        obtain ⟨f, q2⟩ := e
        rw [hy2, HRo_er] at c2
        rw [c2.1, if_pos (by decide), Yb_r, Yb_r]
        exact ⟨J3, z2, rfl, NFr_g (GFr_tr (GFr_tr a3 b3) c3), LF_tr a4 b4, c2.2⟩
      | inl rr =>
        obtain ⟨q2, v⟩ := rr
        rw [hy2, HRo_in] at c2
        obtain ⟨rfl, rfl, hv⟩ := c2
        obtain ⟨rfl, hqn, hvl⟩ := Yher_i hy2
        have eva : (e_n (v : Nat) = e_n (a : Nat)) ↔ v = a := en_eq (by omega) (by omega)
        rw [if_neg (by decide), hv, Yb_l]
        by_cases hva : v = a
        · obtain ⟨J4, f1, f2, f3⟩ := rg_wrong (d := d + 2) (f := 4) (x := e_n 4) rfl b2 (by decide) (by decide)
          have h0 := RE_ne f2
          rw [if_pos (eva.mpr hva), if_pos (by rw [decide_eq_true hva, Bool.true_or]), f1, e_rV_n, C211_72 (fun q => absurd q h0), if_neg h0, Yb_r]
          exact ⟨J4, z2, rfl, NFr_g (GFr_tr (GFr_tr a3 b3) f3), LF_tr a4 b4, f2⟩
        · have i33 : J3 489 33 = e_n (bWy B : Nat) := hN2.2.2.1
          have g33 : InR (J3 489 33) 12 := by rw [i33]; exact InR_n (by omega) (by omega) (by omega)
          rw [if_neg (fun q => hva (eva.mp q)), c210h (d := d + 2) wb hN2, e_rI_i, C211_64 (fun _ _ => g33)]
          by_cases hw : hwy B a v = true
          · obtain ⟨J4, f1, f2, f3⟩ := rg_wrong (d := d + 2) (f := 4) (x := e_n 4) rfl b2 (by decide) (by decide)
            have h0 := RE_ne f2
            rw [if_pos hw, if_neg (by decide), if_pos (by rw [hw, Bool.or_true]), f1, e_rV_n, C211_72 (fun q => absurd q h0), if_neg h0, Yb_r]
            exact ⟨J4, z2, rfl, NFr_g (GFr_tr (GFr_tr a3 b3) f3), LF_tr a4 b4, f2⟩
          · have hbar : ¬ (decide (v = a) || hwy B a v) = true := by
              rw [Bool.or_eq_true, decide_eq_true_eq]
              exact fun q => q.elim hva hw
            rw [if_neg hw, if_pos (by decide), if_pos (RG_0 b2), if_neg hbar, Yb_l, hv, i33, e_n_nat' (by omega)]
            generalize hK : (e_u (e_u J3 503 (bWy B) (e_n (a : Nat))) 504 (bWy B) (e_n (v : Nat))) = K
            have kr : ∀ r, r ≠ 503 → r ≠ 504 → K r = J3 r := fun r q1 q2 => by rw [← hK, e_u_na q2, e_u_na q1]
            have k3 : K 503 (bWy B) = e_n (a : Nat) := by rw [← hK, e_u_na (by decide), e_u_same]
            have k4 : K 504 (bWy B) = e_n (v : Nat) := by rw [← hK, e_u_same]
            have hKG : RG z2 K b n q2 := RG_fr b2 (kr 500 (by decide) (by decide)) (fun k _ _ => by rw [kr 489 (by decide) (by decide)])
            have hKN : RN K B := by
              obtain ⟨h1, h2, h3, h4, h5, h6, h7, h8, h9, h10, h11, h12, h13, h14⟩ := hN2
              unfold RN
              rw [kr 489 (by decide) (by decide), kr 502 (by decide) (by decide), kr 505 (by decide) (by decide), kr 506 (by decide) (by decide), kr 507 (by decide) (by decide), kr 508 (by decide) (by decide), kr 509 (by decide) (by decide), kr 510 (by decide) (by decide), kr 511 (by decide) (by decide), kr 512 (by decide) (by decide)]
              refine ⟨h1, h2, h3, h4, h5, h6, h7, h8, h9, fun w hw2 => ?_, h11, h12, h13, h14⟩
              rw [← hK, e_u_na (by decide), e_u_ne (by omega), e_u_ne (by omega), e_u_na (by decide)]
              exact h10 w hw2
            obtain ⟨J5, z5, g1, g2, g3, g4⟩ := rg_goes (d := d + 1) hn hKG
            have hN5 := RN_g hKN g3
            obtain ⟨J6, z6, r6, i1, i2, i3, i4⟩ := c195h (d := d) (most := 60) (x := e_n 60) hn rfl (by decide) g2
            have hN6 := RN_g hN5 i3
            have hfr : NFr J J6 := NFr_tr (NFr_tr (NFr_g (GFr_tr a3 b3)) ⟨fun r r1 r2 => kr r (by omega) (by omega), fun k hk => by rw [kr 489 (by decide) (by decide)]⟩) (NFr_g (GFr_tr g3 i3))
            have j33 : J5 489 33 = e_n (bWy B : Nat) := hN5.2.2.1
            rw [g1, e_rV_n, C211_107, i1, e_rI_i, j33, C211_122 (InR_n (by omega) (by omega) (by omega)), e_n_nat' (by omega)]
            cases hy3 : Ynum b n 60 (nxP b n q2) with
            | inr e =>
              obtain ⟨f, q3⟩ := e
              rw [hy3, NRo_er] at i2
              rw [if_neg (RE_ne i2), Yb_r]
              exact ⟨_, z6, rfl, NFr_tr hfr ⟨fun r r1 r2 => by rw [e_u_na (by omega)], fun k hk => by rw [e_u_na (by decide)]⟩, LF_tr (LF_tr a4 b4) (LF_tr g4 i4), RE_fr i2 (by rw [e_u_na (by decide)]) (by rw [e_u_na (by decide)])⟩
            | inl rr =>
              obtain ⟨q3, g⟩ := rr
              rw [hy3, NRo_in] at i2
              obtain ⟨rfl, i2⟩ := i2
              have h33 : J6 489 33 = e_n (bWy B : Nat) := hN6.2.2.1
              rw [if_pos (RG_0 i2), Yb_l, h33, e_n_succ]
              exact ⟨_, z6, rfl, NFr_tr hfr ⟨fun r r1 r2 => by rw [e_u_na r1, e_u_na (by omega)], fun k hk => by rw [e_u_ne (by omega), e_u_na (by decide)]⟩, LF_tr (LF_tr a4 b4) (LF_tr g4 i4), RG_fr i2 (by rw [e_u_na (by decide), e_u_na (by decide)]) (fun k k1 k2 => by rw [e_u_ne (by omega), e_u_na (by decide)]), RN_wy hN6 (by rw [i3.1 503 (by decide), g3.1 503 (by decide)]; exact k3) (by rw [i3.1 504 (by decide), g3.1 504 (by decide)]; exact k4)⟩
theorem c212h {d n p : Nat} {b : Nat → Int32} {J : Nat → Nat → Int32} {z : e_Z} {B : e_B} (hn : n ≤ 700) (wb : WB B) (h : RG z J b n p) (hN : RN J B) : ∃ J' z', e_E (d + 4) 212 [.ref 489] (mk J z) = some (.inl none, mk J' z') ∧ NFr J J' ∧ LF z z' ∧ RLo z' J' b n (Lpe b n B p) := by
  suffices hx : ∃ J' z', e_L (d + 3) 212 0 [.ref 489] [] (mk J z) = some (.inl none, mk J' z') ∧ NFr J J' ∧ LF z z' ∧ RLo z' J' b n (Lpe b n B p) by
    obtain ⟨J', z', e1, e2⟩ := hx
    exact ⟨J', z', e_E_ret (d := d + 3) e1, e2⟩
  have w2 := wb.2.1
  have w4 := wb.2.2.2.1
  have e8 : (J 489 34 = e_n 9) ↔ bPe B = 9 := by rw [hN.2.2.2.1]; exact en_eq (c := 9) (by omega) (by decide)
  unfold Lpe
  rw [C212_0]
  by_cases hm : bPe B = 9
  · obtain ⟨J1, a1, a2, a3⟩ := rg_wrong (d := d + 2) (f := 2) (x := e_n 2) rfl h (by decide) (by decide)
    rw [if_pos (e8.mpr hm), if_pos hm, a1, e_rV_n, C212_14, if_neg (RE_ne a2)]
    exact ⟨J1, z, rfl, NFr_g a3, LF_rf z, a2⟩
  · obtain ⟨J1, z1, a1, a2, a3, a4⟩ := rg_goes (d := d + 1) hn h
    have hN1 := RN_g hN a3
    obtain ⟨J2, z2, r, b1, b2, b3, b4⟩ := c195h (d := d) (most := 99) (x := e_n 99) hn rfl (by decide) a2
    have hN2 := RN_g hN1 b3
    have j34 : J1 489 34 = e_n (bPe B : Nat) := hN1.2.2.2.1
    rw [if_neg (fun q => hm (e8.mp q)), if_neg hm, if_pos (RG_0 h), a1, e_rV_n, C212_26, b1, e_rI_i, j34, C212_41 (InR_n (by omega) (by omega) (by omega)), e_n_nat' (by omega)]
    generalize hK : (e_u J2 506 (bPe B) r) = K
    have kr : ∀ q, q ≠ 506 → K q = J2 q := fun q q1 => by rw [← hK, e_u_na q1]
    have i32 : J2 489 32 = e_n (bPl B : Nat) := hN2.2.1
    have i34 : J2 489 34 = e_n (bPe B : Nat) := hN2.2.2.2.1
    have i22 : e_n 22 + J2 489 34 = e_n ((22 + bPe B : Nat) : Nat) := by rw [i34, e_n_add]; congr 1
    have last : ∀ (L : Nat → Nat → Int32) (zz : e_Z) (x : Int32), L 489 34 = e_n (bPe B : Nat) → e_L (d + 3) 212 61 [.ref 489] [.int x, .int (e_n 22 + J2 489 34), .ref 511] (mk L zz) = some (.inl none, mk (if (L 489 20) = 0 then e_u (e_u (e_u L 511 (22 + bPe B) x) 507 (bPe B) (e_n 0)) 489 34 (e_n ((bPe B + 1 : Nat) : Nat)) else e_u (e_u L 511 (22 + bPe B) x) 507 (bPe B) (e_n 0)) zz) := by
      intro L zz x hL
      rw [i22, C212_61 (InR_n (by omega) (by omega) (by omega)) (by rw [hL]; exact InR_n (by omega) (by omega) (by omega)), hL, e_n_nat' (by omega), e_n_nat' (by omega), e_n_succ]
    cases hy : Ynum b n 99 (nxP b n p) with
    | inr e =>
      obtain ⟨f, q⟩ := e
      rw [hy, NRo_er] at b2
      have hKE : RE K f q := RE_fr b2 (by rw [kr 489 (by decide)]) (by rw [kr 489 (by decide)])
      rw [c197f (d := d) hKE, e_rI_i, last K z2 _ (by rw [kr 489 (by decide)]; exact i34), if_neg (RE_ne hKE), Yb_r]
      exact ⟨_, z2, rfl, NFr_tr (NFr_g (GFr_tr a3 b3)) ⟨fun r r1 r2 => by rw [e_u_na (by omega), e_u_na (by omega), kr r (by omega)], fun k hk => by rw [e_u_na (by decide), e_u_na (by decide), kr 489 (by decide)]⟩, LF_tr a4 b4, RE_fr hKE (by rw [e_u_na (by decide), e_u_na (by decide)]) (by rw [e_u_na (by decide), e_u_na (by decide)])⟩
    | inl rr =>
      obtain ⟨q, g⟩ := rr
      rw [hy, NRo_in] at b2
      obtain ⟨rfl, b2⟩ := b2
      have hKG : RG z2 K b n q := RG_fr b2 (kr 500 (by decide)) (fun k _ _ => by rw [kr 489 (by decide)])
      have k6 : K 506 (bPe B) = e_n (g : Nat) := by rw [← hK, e_u_same]
      have hKN : RN K B := by
        obtain ⟨h1, h2, h3, h4, h5, h6, h7, h8, h9, h10, h11, h12, h13, h14⟩ := hN2
        unfold RN
        rw [kr 489 (by decide), kr 502 (by decide), kr 503 (by decide), kr 504 (by decide), kr 505 (by decide), kr 507 (by decide), kr 508 (by decide), kr 509 (by decide), kr 510 (by decide), kr 511 (by decide), kr 512 (by decide)]
        refine ⟨h1, h2, h3, h4, h5, h6, h7, h8, h9, h10, fun p hp => ?_, h12, h13, h14⟩
        rw [← hK, e_u_ne (by omega)]
        exact h11 p hp
      obtain ⟨J3, z3, r3, c1, c2, c3, c4⟩ := c197h (d := d) (told := bPl B) (x := J2 489 32) hn i32 (by omega) hKG
      have hN3 := RN_g hKN c3
      have hfr : NFr J J3 := NFr_tr (NFr_tr (NFr_g (GFr_tr a3 b3)) ⟨fun r r1 r2 => kr r (by omega), fun k hk => by rw [kr 489 (by decide)]⟩) (NFr_g c3)
      rw [c1, e_rI_i, last J3 z3 _ hN3.2.2.2.1, Yb_l]
      cases hy2 : Yone b n (bPl B) nob q with
      | inr e =>
        obtain ⟨f, q2⟩ := e
        rw [hy2, NRo_er] at c2
        rw [if_neg (RE_ne c2), Yb_r]
        exact ⟨_, z3, rfl, NFr_tr hfr ⟨fun r r1 r2 => by rw [e_u_na (by omega), e_u_na (by omega)], fun k hk => by rw [e_u_na (by decide), e_u_na (by decide)]⟩, LF_tr (LF_tr a4 b4) c4, RE_fr c2 (by rw [e_u_na (by decide), e_u_na (by decide)]) (by rw [e_u_na (by decide), e_u_na (by decide)])⟩
      | inl rr =>
        obtain ⟨q2, a⟩ := rr
        rw [hy2, NRo_in] at c2
        obtain ⟨rfl, c2⟩ := c2
        rw [if_pos (RG_0 c2), Yb_l]
        exact ⟨_, z3, rfl, NFr_tr hfr ⟨fun r r1 r2 => by rw [e_u_na r1, e_u_na (by omega), e_u_na (by omega)], fun k hk => by rw [e_u_ne (by omega), e_u_na (by decide), e_u_na (by decide)]⟩, LF_tr (LF_tr a4 b4) c4, RG_fr c2 (by rw [e_u_na (by decide), e_u_na (by decide), e_u_na (by decide)]) (fun k k1 k2 => by rw [e_u_ne (by omega), e_u_na (by decide), e_u_na (by decide)]), RN_pe wb (by omega) hN3 (by rw [c3.1 506 (by decide)]; exact k6)⟩
theorem c213h {d n p : Nat} {b : Nat → Int32} {J : Nat → Nat → Int32} {z : e_Z} {B : e_B} (hn : n ≤ 700) (wb : WB B) (h : RG z J b n p) (hN : RN J B) : ∃ J' z', e_E (d + 4) 213 [.ref 489] (mk J z) = some (.inl none, mk J' z') ∧ NFr J J' ∧ LF z z' ∧ RLo z' J' b n (Lki b n B p) := by
  suffices hx : ∃ J' z', e_L (d + 3) 213 0 [.ref 489, .null] [] (mk J z) = some (.inl none, mk J' z') ∧ NFr J J' ∧ LF z z' ∧ RLo z' J' b n (Lki b n B p) by
    obtain ⟨J', z', e1, e2⟩ := hx
    exact ⟨J', z', e_E_ret (d := d + 3) e1, e2⟩
  have w4 := wb.2.2.2.1
  have w5 := wb.2.2.2.2.1
  have e8 : (J 489 35 = e_n 9) ↔ bKi B = 9 := by rw [hN.2.2.2.2.1]; exact en_eq (c := 9) (by omega) (by decide)
  unfold Lki
  rw [C213_0]
  by_cases hm : bKi B = 9
  · obtain ⟨J1, a1, a2, a3⟩ := rg_wrong (d := d + 2) (f := 2) (x := e_n 2) rfl h (by decide) (by decide)
    rw [if_pos (e8.mpr hm), if_pos hm, a1, e_rV_n, C213_14, if_neg (RE_ne a2)]
    exact ⟨J1, z, rfl, NFr_g a3, LF_rf z, a2⟩
  · obtain ⟨J1, z1, a1, a2, a3, a4⟩ := rg_goes (d := d + 1) hn h
    have hN1 := RN_g hN a3
    obtain ⟨J2, z2, r, b1, b2, b3, b4⟩ := c197h (d := d) (told := bPe B) (x := J1 489 34) hn hN1.2.2.2.1 (by omega) a2
    have hN2 := RN_g hN1 b3
    rw [if_neg (fun q => hm (e8.mp q)), if_neg hm, if_pos (RG_0 h), a1, e_rV_n, C213_26, b1, e_rI_i, C213_34]
    cases hy : Yone b n (bPe B) nob (nxP b n p) with
    | inr e =>
      obtain ⟨f, q⟩ := e
      rw [hy, NRo_er] at b2
      rw [c196f (d := d + 1) b2, e_rI_i, C213_43 (y0 := e_n 0) (fun q => absurd (show e_n 0 = 0 from rfl) q) (fun q => absurd (show e_n 0 = 0 from rfl) q), if_pos (by decide), Yb_r]
      exact ⟨J2, z2, rfl, NFr_g (GFr_tr a3 b3), LF_tr a4 b4, b2⟩
    | inl rr =>
      obtain ⟨q, a⟩ := rr
      rw [hy, NRo_in] at b2
      obtain ⟨rfl, b2⟩ := b2
      obtain ⟨-, -, ha, -⟩ := Yone_i hy
      obtain ⟨J3, r3, c1, c2, c3⟩ := c196h (d := d + 1) (told := bPe B) (x := J2 489 34) hn hN2.2.2.2.1 (by omega) b2
      have gA : InR (e_n (a : Nat)) 9 := InR_n (by omega) (by omega) (by omega)
      rw [c1, e_rI_i, Yb_l, Yone_h]
      cases hy2 : Yher b n (bPe B) q with
      | inr e =>
        obtain ⟨f, q2⟩ := e
        rw [hy2, HRo_er] at c2
        rw [c2.1, C213_43 (y0 := e_n 0) (fun q => absurd (show e_n 0 = 0 from rfl) q) (fun q => absurd (show e_n 0 = 0 from rfl) q), if_pos (by decide), Yb_r, Yb_r]
        exact ⟨J3, z2, rfl, NFr_g (GFr_tr (GFr_tr a3 b3) c3), LF_tr a4 b4, c2.2⟩
      | inl rr =>
        obtain ⟨q2, v⟩ := rr
        rw [hy2, HRo_in] at c2
        obtain ⟨rfl, rfl, hv⟩ := c2
        obtain ⟨rfl, hqn, hvl⟩ := Yher_i hy2
        have gV : InR (J3 489 28) 9 := by rw [hv]; exact InR_n (by omega) (by omega) (by omega)
        have eva : (e_n (v : Nat) = e_n (a : Nat)) ↔ v = a := en_eq (by omega) (by omega)
        have h7 : J3 507 a = bR B 6 a := (hN2.2.2.2.2.2.2.2.2.2.2.1 a ha).2.1
        rw [C213_43 (fun _ _ => gA) (fun _ _ _ _ => gV), if_neg (by decide), hv, Yb_l, e_n_nat' (by omega), h7, e_n_nat' (by omega)]
        have hshr := shr_bit (bR B 6 a) (i := v) (by omega)
        by_cases hva : v = a
        · obtain ⟨J4, f1, f2, f3⟩ := rg_wrong (d := d + 2) (f := 4) (x := e_n 4) rfl b2 (by decide) (by decide)
          have h0 := RE_ne f2
          rw [if_pos (eva.mpr hva), if_pos (by rw [decide_eq_true hva, Bool.true_or]), f1, e_rV_n, C213_77 (fun q => absurd q h0) (fun q => absurd q h0), if_neg h0, Yb_r]
          exact ⟨J4, z2, rfl, NFr_g (GFr_tr (GFr_tr a3 b3) f3), LF_tr a4 b4, f2⟩
        · rw [if_neg (fun q => hva (eva.mp q))]
          by_cases hw : bt (bR B 6 a) v = true
          · obtain ⟨J4, f1, f2, f3⟩ := rg_wrong (d := d + 2) (f := 4) (x := e_n 4) rfl b2 (by decide) (by decide)
            have h0 := RE_ne f2
            rw [if_pos (by rw [hshr]; exact hw), if_pos (by rw [hw, Bool.or_true]), f1, e_rV_n, C213_77 (fun q => absurd q h0) (fun q => absurd q h0), if_neg h0, Yb_r]
            exact ⟨J4, z2, rfl, NFr_g (GFr_tr (GFr_tr a3 b3) f3), LF_tr a4 b4, f2⟩
          · have hbar : ¬ (decide (v = a) || bt (bR B 6 a) v) = true := by
              rw [Bool.or_eq_true, decide_eq_true_eq]
              exact fun q => q.elim hva hw
            have h35 : J3 489 35 = e_n (bKi B : Nat) := hN2.2.2.2.2.1
            rw [if_neg (by rw [hshr]; exact hw), if_neg hbar, Yb_l, if_pos (RG_0 b2), h35, e_n_succ]
            have hKN := RN_ki ha hvl hva hN2
            rw [h7] at hKN
            generalize hK : (e_u (e_u (e_u J3 507 a (bR B 6 a ||| e_shl (e_n 1) (e_n (v : Nat)))) 507 v ((e_u J3 507 a (bR B 6 a ||| e_shl (e_n 1) (e_n (v : Nat)))) 507 v ||| e_shl (e_n 1) (e_n (a : Nat)))) 489 35 (e_n ((bKi B + 1 : Nat) : Nat))) = K at hKN
            have kr : ∀ r, r ≠ 489 → r ≠ 507 → K r = J3 r := fun r q1 q2 => by rw [← hK, e_u_na q1, e_u_na q2, e_u_na q2]
            have k9 : ∀ k, k ≠ 35 → K 489 k = J3 489 k := fun k hk => by rw [← hK, e_u_ne hk, e_u_na (by decide), e_u_na (by decide)]
            obtain ⟨J5, z5, g1, g2, g3, g4⟩ := rg_goes (d := d + 1) hn (RG_fr (J' := K) b2 (kr 500 (by decide) (by decide)) (fun k _ _ => k9 k (by omega)))
            rw [g1, e_rV_n, C213_129]
            exact ⟨J5, z5, rfl, NFr_tr (NFr_tr (NFr_g (GFr_tr a3 b3)) ⟨fun r r1 r2 => kr r r1 (by omega), fun k hk => k9 k (by omega)⟩) (NFr_g g3), LF_tr (LF_tr a4 b4) g4, g2, RN_g hKN g3⟩
theorem c214h {d n p : Nat} {b : Nat → Int32} {J : Nat → Nat → Int32} {z : e_Z} {B : e_B} {is : Int32} (hn : n ≤ 700) (wb : WB B) (h : RG z J b n p) (hN : RN J B) : ∃ J' z', e_E (d + 4) 214 [.ref 489, .int is] (mk J z) = some (.inl none, mk J' z') ∧ NFr J J' ∧ LF z z' ∧ RLo z' J' b n (Lti b n is B p) := by
  suffices hx : ∃ J' z', e_L (d + 3) 214 0 [.ref 489, .int is, .null, .null] [] (mk J z) = some (.inl none, mk J' z') ∧ NFr J J' ∧ LF z z' ∧ RLo z' J' b n (Lti b n is B p) by
    obtain ⟨J', z', e1, e2⟩ := hx
    exact ⟨J', z', e_E_ret (d := d + 3) e1, e2⟩
  have w1 := wb.1
  have w4 := wb.2.2.2.1
  have w6 := wb.2.2.2.2.2.1
  have e8 : (J 489 36 = e_n 12) ↔ bTi B = 12 := by rw [hN.2.2.2.2.2.1]; exact en_eq (c := 12) (by omega) (by decide)
  unfold Lti
  rw [C214_0]
  by_cases hm : bTi B = 12
  · obtain ⟨J1, a1, a2, a3⟩ := rg_wrong (d := d + 2) (f := 2) (x := e_n 2) rfl h (by decide) (by decide)
    rw [if_pos (e8.mpr hm), if_pos hm, a1, e_rV_n, C214_14, if_neg (RE_ne a2)]
    exact ⟨J1, z, rfl, NFr_g a3, LF_rf z, a2⟩
  · obtain ⟨J1, z1, a1, a2, a3, a4⟩ := rg_goes (d := d + 1) hn h
    have hN1 := RN_g hN a3
    obtain ⟨J2, z2, r, b1, b2, b3, b4⟩ := c197h (d := d) (told := bMa B) (x := J1 489 31) hn hN1.1 (by omega) a2
    have hN2 := RN_g hN1 b3
    rw [if_neg (fun q => hm (e8.mp q)), if_neg hm, if_pos (RG_0 h), a1, e_rV_n, C214_26, b1, e_rI_i, C214_34]
    cases hy : Yone b n (bMa B) nob (nxP b n p) with
    | inr e =>
      obtain ⟨f, q⟩ := e
      rw [hy, NRo_er] at b2
      rw [c196f (d := d + 1) b2, e_rI_i, C214_43, if_pos (by decide), Yb_r]
      exact ⟨J2, z2, rfl, NFr_g (GFr_tr a3 b3), LF_tr a4 b4, b2⟩
    | inl rr =>
      obtain ⟨q, m⟩ := rr
      rw [hy, NRo_in] at b2
      obtain ⟨rfl, b2⟩ := b2
      obtain ⟨-, -, ha, -⟩ := Yone_i hy
      obtain ⟨J3, r3, c1, c2, c3⟩ := c196h (d := d + 1) (told := bPe B) (x := J2 489 34) hn hN2.2.2.2.1 (by omega) b2
      rw [c1, e_rI_i, Yb_l, Yone_h, C214_43]
      cases hy2 : Yher b n (bPe B) q with
      | inr e =>
        obtain ⟨f, q2⟩ := e
        rw [hy2, HRo_er] at c2
        rw [c2.1, if_pos (by decide), Yb_r, Yb_r]
        exact ⟨J3, z2, rfl, NFr_g (GFr_tr (GFr_tr a3 b3) c3), LF_tr a4 b4, c2.2⟩
      | inl rr =>
        obtain ⟨q2, v⟩ := rr
        rw [hy2, HRo_in] at c2
        obtain ⟨rfl, rfl, hv⟩ := c2
        obtain ⟨rfl, hqn, hvl⟩ := Yher_i hy2
        rw [if_neg (by decide), Yb_l]
        have h36 : J3 489 36 = e_n (bTi B : Nat) := hN2.2.2.2.2.2.1
        have hrow := hN2.2.2.2.2.2.2.2.2.2.2.2.1
        have g36 : InR (J3 489 36) 12 := by rw [h36]; exact InR_n (by omega) (by omega) (by omega)
        generalize hg : (fun k => decide (bR B 7 k = e_n (m : Nat) ∧ bR B 8 k = e_n (v : Nat))) = g
        have hgi : ∀ k, (g k = true) ↔ (bR B 7 k = e_n (m : Nat) ∧ bR B 8 k = e_n (v : Nat)) := fun k => by rw [← hg, decide_eq_true_eq]
        have htd : tdB B m v = anyU g (bTi B) 0 := by rw [anyU_B, ← hg]; rfl
        rw [htd]
        have badl : ∀ (K : Nat → Nat → Int32) (f0 q0 : Nat) (x3 : Int32), RE K f0 q0 → e_L (d + 3) 214 49 [.ref 489, .int is, .int (e_n (m : Nat)), .int x3] [] (mk K z2) = some (.inl none, mk K z2) := by
          intro K f0 q0 x3 hK
          have h0 := RE_ne hK
          rw [C214_49 (fun _ q => absurd q h0) (fun _ q => absurd q h0)]
          by_cases hlt : x3 < K 489 36
          · rw [if_pos hlt, if_neg h0]
          · rw [if_neg hlt, if_neg h0]
        have loop : ∀ f i, i + f = bTi B → ∃ J' z', e_L (d + 3) 214 49 [.ref 489, .int is, .int (e_n (m : Nat)), .int (e_n (i : Nat))] [] (mk J3 z2) = some (.inl none, mk J' z') ∧ NFr J3 J' ∧ LF z2 z' ∧ RLo z' J' b n (Yb (if anyU g f i = true then (.inr (4, q2) : YN) else .inl (nxP b n q2, v)) (fun q2 c => .inl (q2, adTi B m c is))) := by
          intro f
          induction f with
          | zero =>
            intro i hi
            have hlt : ¬ e_n (i : Nat) < J3 489 36 := by rw [h36, e_n_ltN (by omega) (by omega)]; omega
            have ea : ¬ anyU g 0 i = true := fun q => (by cases q)
            rw [C214_49 (fun q => absurd q hlt) (fun _ _ => g36), if_neg hlt, if_pos (RG_0 b2), if_neg ea, Yb_l, h36, e_n_nat' (by omega), hv, e_n_succ]
            have hKN := RN_ti (m := m) (c := v) (is := is) hN2
            generalize hK : (e_u (e_u (e_u (e_u J3 508 (bTi B) (e_n (m : Nat))) 509 (bTi B) (e_n (v : Nat))) 510 (bTi B) is) 489 36 (e_n ((bTi B + 1 : Nat) : Nat))) = K at hKN
            have kr : ∀ r, r ≠ 489 → r ≠ 508 → r ≠ 509 → r ≠ 510 → K r = J3 r := fun r q1 q2 q3 q4 => by rw [← hK, e_u_na q1, e_u_na q4, e_u_na q3, e_u_na q2]
            have k9 : ∀ k, k ≠ 36 → K 489 k = J3 489 k := fun k hk => by rw [← hK, e_u_ne hk, e_u_na (by decide), e_u_na (by decide), e_u_na (by decide)]
            obtain ⟨J5, z5, g1, g2, g3, g4⟩ := rg_goes (d := d + 1) hn (RG_fr (J' := K) b2 (kr 500 (by decide) (by decide) (by decide) (by decide)) (fun k _ _ => k9 k (by omega)))
            rw [g1, e_rV_n, C214_153]
            exact ⟨J5, z5, rfl, NFr_tr ⟨fun r r1 r2 => kr r r1 (by omega) (by omega) (by omega), fun k hk => k9 k (by omega)⟩ (NFr_g g3), g4, g2, RN_g hKN g3⟩
          | succ f ih =>
            intro i hi
            have hlt : e_n (i : Nat) < J3 489 36 := by rw [h36, e_n_ltN (by omega) (by omega)]; omega
            obtain ⟨r7, r8, -⟩ := hrow i (by omega)
            have e : anyU g (f + 1) i = (g i || anyU g f (i + 1)) := rfl
            obtain ⟨J4, z4, q1, q2', q3, q4⟩ := ih (i + 1) (by omega)
            rw [C214_49 (fun _ _ => InR_n (by omega) (by omega) (by omega)) (fun q => absurd hlt q), if_pos hlt, if_pos (RG_0 b2), e_n_nat' (by omega), r7, r8, hv, e, e_n_succ]
            by_cases g1 : g i = true
            · obtain ⟨t1, t2⟩ := (hgi i).mp g1
              obtain ⟨J5, f1, f2, f3⟩ := rg_wrong (d := d + 2) (f := 4) (x := e_n 4) rfl b2 (by decide) (by decide)
              rw [if_pos t1, if_pos t2, f1, e_rV_n, C214_92, badl J5 _ _ _ f2, g1, Bool.true_or, if_pos rfl, Yb_r]
              exact ⟨J5, z2, rfl, NFr_g f3, LF_rf z2, f2⟩
            · have g2 : g i = false := by simpa using g1
              rw [g2, Bool.false_or]
              by_cases t1 : bR B 7 i = e_n (m : Nat)
              · rw [if_pos t1, if_neg (fun q => g1 ((hgi i).mpr ⟨t1, q⟩))]
                exact ⟨J4, z4, q1, q2', q3, q4⟩
              · rw [if_neg t1]
                exact ⟨J4, z4, q1, q2', q3, q4⟩
        obtain ⟨J4, z4, q1, q2', q3, q4⟩ := loop (bTi B) 0 (by omega)
        exact ⟨J4, z4, q1, NFr_tr (NFr_g (GFr_tr a3 b3)) q2', LF_tr (LF_tr a4 b4) q3, q4⟩
end S99zzh
