/-! the reference's board in the making; numbers -/
section S99zzg
def RN (J : Nat → Nat → Int32) (B : e_B) : Prop :=
  J 489 31 = e_n (bMa B : Nat) ∧ J 489 32 = e_n (bPl B : Nat) ∧ J 489 33 = e_n (bWy B : Nat) ∧ J 489 34 = e_n (bPe B : Nat) ∧ J 489 35 = e_n (bKi B : Nat) ∧ J 489 36 = e_n (bTi B : Nat)
  ∧ J 489 37 = (if bO B = [] then e_n (-1) else e_n 0) ∧ (bO B = [] → J 489 38 = e_n 0)
  ∧ (∀ a, a < bPl B → J 502 a = bR B 1 a) ∧ (∀ w, w < bWy B → J 503 w = bR B 2 w ∧ J 504 w = bR B 3 w ∧ J 505 w = bR B 4 w)
  ∧ (∀ p, p < bPe B → J 506 p = bR B 5 p ∧ J 507 p = bR B 6 p ∧ J 511 (22 + p) = bR B 10 (22 + p)) ∧ (∀ k, k < bTi B → J 508 k = bR B 7 k ∧ J 509 k = bR B 8 k ∧ J 510 k = bR B 9 k)
  ∧ (∀ m, m < bMa B → J 511 (31 + m) = bR B 10 (31 + m)) ∧ (¬ bO B = [] → (enc (bO B)).length < 1399 ∧ ∀ j, j ≤ (enc (bO B)).length → J 512 j = (enc (bO B) ++ [e_n 0]).getD j 0)
theorem RN_fr {J J' : Nat → Nat → Int32} {B : e_B} (h0 : ∀ k, 31 ≤ k → k ≤ 38 → J' 489 k = J 489 k) (h : ∀ r, 502 ≤ r → r ≤ 512 → J' r = J r) (H : RN J B) : RN J' B := by
  unfold RN at *
  rw [h0 31 (by decide) (by decide), h0 32 (by decide) (by decide), h0 33 (by decide) (by decide), h0 34 (by decide) (by decide), h0 35 (by decide) (by decide), h0 36 (by decide) (by decide), h0 37 (by decide) (by decide), h0 38 (by decide) (by decide), h 502 (by decide) (by decide), h 503 (by decide) (by decide), h 504 (by decide) (by decide), h 505 (by decide) (by decide), h 506 (by decide) (by decide), h 507 (by decide) (by decide), h 508 (by decide) (by decide), h 509 (by decide) (by decide), h 510 (by decide) (by decide), h 511 (by decide) (by decide), h 512 (by decide) (by decide)]
  exact H
/-- only the token and the fault move -/
def GFr (J J' : Nat → Nat → Int32) : Prop := (∀ r, r ≠ 489 → J' r = J r) ∧ ∀ k, k ≠ 20 → k ≠ 21 → (k < 24 ∨ 29 < k) → J' 489 k = J 489 k
theorem GFr_rf {J : Nat → Nat → Int32} : GFr J J := ⟨fun _ _ => rfl, fun _ _ _ _ => rfl⟩
theorem GFr_tr {a b c : Nat → Nat → Int32} (h : GFr a b) (g : GFr b c) : GFr a c := ⟨fun r h1 => (g.1 r h1).trans (h.1 r h1), fun k h1 h2 h3 => (g.2 k h1 h2 h3).trans (h.2 k h1 h2 h3)⟩
theorem GFr_tf {a b : Nat → Nat → Int32} (h : TF a b) : GFr a b := ⟨h.1, fun k _ _ h3 => h.2 k h3⟩
theorem GFr_wr {a b : Nat → Nat → Int32} (h1 : ∀ r, r ≠ 489 → b r = a r) (h2 : ∀ k, k ≠ 20 → k ≠ 21 → b 489 k = a 489 k) : GFr a b := ⟨h1, fun k q1 q2 _ => h2 k q1 q2⟩
theorem RN_g {J J' : Nat → Nat → Int32} {B : e_B} (H : RN J B) (h : GFr J J') : RN J' B := RN_fr (fun k h1 h2 => h.2 k (by omega) (by omega) (by omega)) (fun r h1 h2 => h.1 r (by omega)) H
def RG (z : e_Z) (J : Nat → Nat → Int32) (b : Nat → Int32) (n p : Nat) : Prop := TR z J b n p ∧ J 489 20 = e_n 0
theorem RG_0 {z : e_Z} {J : Nat → Nat → Int32} {b : Nat → Int32} {n p : Nat} (h : RG z J b n p) : J 489 20 = 0 := h.2
theorem rg_goes {d n p : Nat} {b : Nat → Int32} {J : Nat → Nat → Int32} {z : e_Z} (hn : n ≤ 700) (h : RG z J b n p) : ∃ J' z', e_E (d + 2) 187 [.ref 489] (mk J z) = some (.inl none, mk J' z') ∧ RG z' J' b n (nxP b n p) ∧ GFr J J' ∧ LF z z' := by
  obtain ⟨J', z', e1, e2, e3, e4⟩ := goesH (d := d) hn h.1
  exact ⟨J', z', e1, ⟨e2, by rw [e3.2 20 (by omega)]; exact h.2⟩, GFr_tf e3, e4⟩
theorem rg_wrong {d f n p : Nat} {b : Nat → Int32} {J : Nat → Nat → Int32} {z : e_Z} {x : Int32} (hx : x = e_n (f : Nat)) (h : RG z J b n p) (hf : 1 ≤ f) (hf5 : f ≤ 5) : ∃ J', e_E (d + 1) 191 [.ref 489, .int x] (mk J z) = some (.inl none, mk J' z) ∧ RE J' f p ∧ GFr J J' := by
  obtain ⟨J', e1, e2, e3, e4⟩ := wrongH (d := d) hx (RG_0 h) h.1 hf hf5
  exact ⟨J', e1, e2, GFr_wr e3 e4⟩
def NRo (z : e_Z) (J : Nat → Nat → Int32) (b : Nat → Int32) (n : Nat) (r : Int32) (x : YN) : Prop := match x with
  | .inl q => r = e_n (q.2 : Nat) ∧ RG z J b n q.1
  | .inr e => RE J e.1 e.2
theorem NRo_in {z : e_Z} {J : Nat → Nat → Int32} {b : Nat → Int32} {n q v : Nat} {r : Int32} : NRo z J b n r (.inl (q, v)) = (r = e_n (v : Nat) ∧ RG z J b n q) := rfl
theorem NRo_er {z : e_Z} {J : Nat → Nat → Int32} {b : Nat → Int32} {n f q : Nat} {r : Int32} : NRo z J b n r (.inr (f, q)) = RE J f q := rfl
theorem c195h {d most n p : Nat} {b : Nat → Int32} {J : Nat → Nat → Int32} {z : e_Z} {x : Int32} (hn : n ≤ 700) (hx : x = e_n (most : Nat)) (hm : most < 1000) (h : RG z J b n p) : ∃ J' z' r, e_E (d + 3) 195 [.ref 489, .int (e_n 0), .int x] (mk J z) = some (.inl (some (.int r)), mk J' z') ∧ NRo z' J' b n r (Ynum b n most p) ∧ GFr J J' ∧ LF z z' := by
  subst hx
  suffices hx : ∃ J' z' r, e_L (d + 2) 195 0 [.ref 489, .int (e_n 0), .int (e_n (most : Nat)), .null] [] (mk J z) = some (.inl (some (.int r)), mk J' z') ∧ NRo z' J' b n r (Ynum b n most p) ∧ GFr J J' ∧ LF z z' by
    obtain ⟨J', z', r, e1, e2⟩ := hx
    exact ⟨J', z', r, e_E_ret (d := d + 2) e1, e2⟩
  have hR := h.1
  rw [C195_0, if_pos (RG_0 h)]
  unfold Ynum
  by_cases k2 : tkK b n p = 2
  · rw [if_pos k2, if_pos ((TR_2 hR).mpr k2)]
    by_cases h4 : 4 < Yln b n p
    · obtain ⟨J1, a1, a2, a3⟩ := rg_wrong (d := d + 1) (f := 2) (x := e_n 2) rfl h (by decide) (by decide)
      rw [if_pos ((TR_4 hn hR).mpr h4), if_pos (Or.inl h4), a1, e_rV_n, C195_54, if_neg (RE_ne a2)]
      exact ⟨J1, z, _, rfl, a2, a3, LF_rf z⟩
    · obtain ⟨e1, e2⟩ := Yv_e k2 h4
      have hv : J 489 28 = e_n (Yv b n p : Nat) := (hR.2.2.2.2.2.2.2.1 k2).trans e1
      have hlt : (e_n (most : Nat) < e_n (Yv b n p : Nat)) = (most < Yv b n p) := e_n_ltN (by omega) (by omega)
      rw [if_neg (fun q => h4 ((TR_4 hn hR).mp q)), hv, if_neg (by rw [show (e_n 0) = e_n ((0 : Nat) : Nat) from rfl, e_n_ltN (by omega) (by omega)]; omega)]
      by_cases hmm : most < Yv b n p
      · obtain ⟨J1, a1, a2, a3⟩ := rg_wrong (d := d + 1) (f := 2) (x := e_n 2) rfl h (by decide) (by decide)
        rw [if_pos (by rw [hlt]; exact hmm), if_pos (Or.inr hmm), a1, e_rV_n, C195_54, if_neg (RE_ne a2)]
        exact ⟨J1, z, _, rfl, a2, a3, LF_rf z⟩
      · obtain ⟨J1, z1, a1, a2, a3, a4⟩ := rg_goes (d := d) hn h
        rw [if_neg (by rw [hlt]; exact hmm), if_neg (fun q => q.elim h4 hmm), a1, e_rV_n, C195_70]
        exact ⟨J1, z1, _, rfl, ⟨rfl, a2⟩, a3, a4⟩
  · obtain ⟨J1, a1, a2, a3⟩ := rg_wrong (d := d + 1) (f := 1) (x := e_n 1) rfl h (by decide) (by decide)
    rw [if_neg k2, if_neg (fun q => k2 ((TR_2 hR).mp q)), a1, e_rV_n, C195_22, if_neg (RE_ne a2)]
    exact ⟨J1, z, _, rfl, a2, a3, LF_rf z⟩
theorem c195f {d f q : Nat} {J : Nat → Nat → Int32} {z : e_Z} {x y : Int32} (h : RE J f q) : e_E (d + 3) 195 [.ref 489, .int x, .int y] (mk J z) = some (.inl (some (.int (e_n 0))), mk J z) := by
  refine e_E_ret (d := d + 2) ?_
  show e_L (d + 2) 195 0 [.ref 489, .int x, .int y, .null] [] (mk J z) = _
  rw [C195_0, if_neg (RE_ne h)]
/-- the number here, not gone past -/
def Yher (b : Nat → Int32) (n told p : Nat) : YN := if tkK b n p = 2 then (if 4 < Yln b n p then .inr (2, p) else if told ≤ Yv b n p then .inr (3, p) else .inl (p, Yv b n p)) else .inr (1, p)
def HRo (z : e_Z) (J J' : Nat → Nat → Int32) (r : Int32) (x : YN) : Prop := match x with
  | .inl q => r = e_n 1 ∧ J' = J ∧ J 489 28 = e_n (q.2 : Nat)
  | .inr e => r = e_n 0 ∧ RE J' e.1 e.2
theorem HRo_in {z : e_Z} {J J' : Nat → Nat → Int32} {q v : Nat} {r : Int32} : HRo z J J' r (.inl (q, v)) = (r = e_n 1 ∧ J' = J ∧ J 489 28 = e_n (v : Nat)) := rfl
theorem HRo_er {z : e_Z} {J J' : Nat → Nat → Int32} {f q : Nat} {r : Int32} : HRo z J J' r (.inr (f, q)) = (r = e_n 0 ∧ RE J' f q) := rfl
theorem c196h {d told n p : Nat} {b : Nat → Int32} {J : Nat → Nat → Int32} {z : e_Z} {x : Int32} (hn : n ≤ 700) (hx : x = e_n (told : Nat)) (ht : told < 1000) (h : RG z J b n p) : ∃ J' r, e_E (d + 2) 196 [.ref 489, .int x] (mk J z) = some (.inl (some (.int r)), mk J' z) ∧ HRo z J J' r (Yher b n told p) ∧ GFr J J' := by
  subst hx
  suffices hx : ∃ J' r, e_L (d + 1) 196 0 [.ref 489, .int (e_n (told : Nat))] [] (mk J z) = some (.inl (some (.int r)), mk J' z) ∧ HRo z J J' r (Yher b n told p) ∧ GFr J J' by
    obtain ⟨J', r, e1, e2⟩ := hx
    exact ⟨J', r, e_E_ret (d := d + 1) e1, e2⟩
  have hR := h.1
  rw [C196_0, if_pos (RG_0 h)]
  unfold Yher
  by_cases k2 : tkK b n p = 2
  · rw [if_pos k2, if_pos ((TR_2 hR).mpr k2)]
    by_cases h4 : 4 < Yln b n p
    · obtain ⟨J1, a1, a2, a3⟩ := rg_wrong (d := d) (f := 2) (x := e_n 2) rfl h (by decide) (by decide)
      rw [if_pos ((TR_4 hn hR).mpr h4), if_pos h4, a1, e_rV_n, C196_38, tf_0 (RE_ne a2)]
      exact ⟨J1, _, rfl, ⟨rfl, a2⟩, a3⟩
    · obtain ⟨e1, e2⟩ := Yv_e k2 h4
      have hv : J 489 28 = e_n (Yv b n p : Nat) := (hR.2.2.2.2.2.2.2.1 k2).trans e1
      have hlt : (e_n (Yv b n p : Nat) < e_n (told : Nat)) = (Yv b n p < told) := e_n_ltN (by omega) (by omega)
      rw [if_neg (fun q => h4 ((TR_4 hn hR).mp q)), if_neg h4, hv]
      by_cases hmm : Yv b n p < told
      · rw [if_pos (by rw [hlt]; exact hmm), if_neg (show ¬ told ≤ Yv b n p by omega), tf_1 (RG_0 h)]
        exact ⟨J, _, rfl, ⟨rfl, rfl, hv⟩, GFr_rf⟩
      · obtain ⟨J1, a1, a2, a3⟩ := rg_wrong (d := d) (f := 3) (x := e_n 3) rfl h (by decide) (by decide)
        rw [if_neg (by rw [hlt]; exact hmm), if_pos (show told ≤ Yv b n p by omega), a1, e_rV_n, C196_54, tf_0 (RE_ne a2)]
        exact ⟨J1, _, rfl, ⟨rfl, a2⟩, a3⟩
  · obtain ⟨J1, a1, a2, a3⟩ := rg_wrong (d := d) (f := 1) (x := e_n 1) rfl h (by decide) (by decide)
    rw [if_neg k2, if_neg (fun q => k2 ((TR_2 hR).mp q)), a1, e_rV_n, C196_22, tf_0 (RE_ne a2)]
    exact ⟨J1, _, rfl, ⟨rfl, a2⟩, a3⟩
theorem c196f {d f q : Nat} {J : Nat → Nat → Int32} {z : e_Z} {x : Int32} (h : RE J f q) : e_E (d + 2) 196 [.ref 489, .int x] (mk J z) = some (.inl (some (.int (e_n 0))), mk J z) := by
  refine e_E_ret (d := d + 1) ?_
  show e_L (d + 1) 196 0 [.ref 489, .int x] [] (mk J z) = _
  rw [C196_0, if_neg (RE_ne h)]
theorem Yone_h {b : Nat → Int32} {n told p : Nat} {bar : Nat → Bool} : Yone b n told bar p = Yb (Yher b n told p) (fun _ v => if bar v = true then .inr (4, p) else .inl (nxP b n p, v)) := by
  unfold Yone Yher
  by_cases k2 : tkK b n p = 2
  · rw [if_pos k2, if_pos k2]
    by_cases h4 : 4 < Yln b n p
    · rw [if_pos h4, if_pos h4]; rfl
    · rw [if_neg h4, if_neg h4]
      by_cases h5 : told ≤ Yv b n p
      · rw [if_pos h5, if_pos h5]; rfl
      · rw [if_neg h5, if_neg h5, Yb_l]
  · rw [if_neg k2, if_neg k2]; rfl
theorem Yher_i {b : Nat → Int32} {n told p q v : Nat} (h : Yher b n told p = .inl (q, v)) : q = p ∧ p < n ∧ v < told := by
  unfold Yher at h
  by_cases k2 : tkK b n p = 2
  · rw [if_pos k2] at h
    by_cases h4 : 4 < Yln b n p
    · rw [if_pos h4] at h; cases h
    · rw [if_neg h4] at h
      by_cases h5 : told ≤ Yv b n p
      · rw [if_pos h5] at h; cases h
      · rw [if_neg h5] at h
        cases h
        exact ⟨rfl, (tk_2 k2).1, by omega⟩
  · rw [if_neg k2] at h; cases h
theorem c197h {d told n p : Nat} {b : Nat → Int32} {J : Nat → Nat → Int32} {z : e_Z} {x : Int32} (hn : n ≤ 700) (hx : x = e_n (told : Nat)) (ht : told < 1000) (h : RG z J b n p) : ∃ J' z' r, e_E (d + 3) 197 [.ref 489, .int x] (mk J z) = some (.inl (some (.int r)), mk J' z') ∧ NRo z' J' b n r (Yone b n told nob p) ∧ GFr J J' ∧ LF z z' := by
  subst hx
  suffices hx : ∃ J' z' r, e_L (d + 2) 197 0 [.ref 489, .int (e_n (told : Nat)), .null] [] (mk J z) = some (.inl (some (.int r)), mk J' z') ∧ NRo z' J' b n r (Yone b n told nob p) ∧ GFr J J' ∧ LF z z' by
    obtain ⟨J', z', r, e1, e2⟩ := hx
    exact ⟨J', z', r, e_E_ret (d := d + 2) e1, e2⟩
  obtain ⟨J1, r1, a1, a2, a3⟩ := c196h (d := d) (told := told) hn rfl ht h
  rw [C197_0, a1, e_rI_i, Yone_h]
  cases hy : Yher b n told p with
  | inr e =>
    obtain ⟨f, q⟩ := e
    rw [hy, HRo_er] at a2
    rw [Yb_r, C197_5, if_neg (RE_ne a2.2)]
    exact ⟨J1, z, _, rfl, a2.2, a3, LF_rf z⟩
  | inl rr =>
    obtain ⟨q, v⟩ := rr
    rw [hy, HRo_in] at a2
    obtain ⟨rfl, rfl, hv⟩ := a2
    obtain ⟨J2, z2, b1, b2, b3, b4⟩ := rg_goes (d := d) hn h
    rw [Yb_l, C197_5, if_pos (RG_0 h), if_neg (by decide), b1, e_rV_n, C197_28, hv]
    exact ⟨J2, z2, _, rfl, ⟨rfl, b2⟩, b3, b4⟩
theorem c197f {d f q : Nat} {J : Nat → Nat → Int32} {z : e_Z} {x : Int32} (h : RE J f q) : e_E (d + 3) 197 [.ref 489, .int x] (mk J z) = some (.inl (some (.int (e_n 0))), mk J z) := by
  refine e_E_ret (d := d + 2) ?_
  show e_L (d + 2) 197 0 [.ref 489, .int x, .null] [] (mk J z) = _
  rw [C197_0, c196f h, e_rI_i, C197_5, if_neg (RE_ne h), if_pos (by decide)]
-- the board in the making
theorem RN_ma {J : Nat → Nat → Int32} {B : e_B} {v : Nat} (wb : WB B) (h : RN J B) : RN (e_u (e_u J 511 (31 + bMa B) (e_n (v : Nat))) 489 31 (e_n ((bMa B + 1 : Nat) : Nat))) (adMa B v) := by
  obtain ⟨h1, h2, h3, h4, h5, h6, h7, h8, h9, h10, h11, h12, h13, h14⟩ := h
  have w4 := wb.2.2.2.1
  generalize hK : (e_u (e_u J 511 (31 + bMa B) (e_n (v : Nat))) 489 31 (e_n ((bMa B + 1 : Nat) : Nat))) = K
  have kr : ∀ r, r ≠ 489 → r ≠ 511 → K r = J r := fun r a1 a2 => by rw [← hK, e_u_na a1, e_u_na a2]
  have k9 : ∀ k, k ≠ 31 → K 489 k = J 489 k := fun k hk => by rw [← hK, e_u_ne hk, e_u_na (by decide)]
  have k11 : ∀ j, K 511 j = if j = 31 + bMa B then e_n (v : Nat) else J 511 j := fun j => by rw [← hK, e_u_na (by decide), e_u_at]
  have hR : ∀ r, r ≠ 10 → bR (adMa B v) r = bR B r := fun r hr => e_u_na hr
  have f10 : ∀ k, bR (adMa B v) 10 k = if k = 31 + bMa B then e_n (v : Nat) else bR B 10 k := fun k => by
    show e_u (bR B) 10 (31 + bMa B) (e_n (v : Nat)) 10 k = _
    rw [e_u_at]
  refine ⟨by rw [← hK, e_u_same]; rfl, (k9 32 (by decide)).trans h2, (k9 33 (by decide)).trans h3, (k9 34 (by decide)).trans h4, (k9 35 (by decide)).trans h5, (k9 36 (by decide)).trans h6, (k9 37 (by decide)).trans h7, fun q => (k9 38 (by decide)).trans (h8 q), ?_, ?_, ?_, ?_, ?_, ?_⟩
  · rw [kr 502 (by decide) (by decide), hR 1 (by decide)]; exact h9
  · rw [kr 503 (by decide) (by decide), kr 504 (by decide) (by decide), kr 505 (by decide) (by decide), hR 2 (by decide), hR 3 (by decide), hR 4 (by decide)]; exact h10
  · intro p hp
    have hp' : p < bPe B := hp
    rw [kr 506 (by decide) (by decide), kr 507 (by decide) (by decide), hR 5 (by decide), hR 6 (by decide), k11, f10, if_neg (by omega), if_neg (by omega)]; exact h11 p hp
  · rw [kr 508 (by decide) (by decide), kr 509 (by decide) (by decide), kr 510 (by decide) (by decide), hR 7 (by decide), hR 8 (by decide), hR 9 (by decide)]; exact h12
  · intro m hm
    have hm' : m < bMa B + 1 := hm
    rw [k11, f10]
    by_cases e : m = bMa B
    · rw [if_pos (by omega), if_pos (by omega)]
    · rw [if_neg (by omega), if_neg (by omega)]; exact h13 m (by omega)
  · rw [kr 512 (by decide) (by decide)]; exact h14
theorem RN_pl {J : Nat → Nat → Int32} {B : e_B} {x : Int32} (h : RN J B) : RN (e_u (e_u J 502 (bPl B) x) 489 32 (e_n ((bPl B + 1 : Nat) : Nat))) (adPl B x) := by
  obtain ⟨h1, h2, h3, h4, h5, h6, h7, h8, h9, h10, h11, h12, h13, h14⟩ := h
  generalize hK : (e_u (e_u J 502 (bPl B) x) 489 32 (e_n ((bPl B + 1 : Nat) : Nat))) = K
  have kr : ∀ r, r ≠ 489 → r ≠ 502 → K r = J r := fun r a1 a2 => by rw [← hK, e_u_na a1, e_u_na a2]
  have k9 : ∀ k, k ≠ 32 → K 489 k = J 489 k := fun k hk => by rw [← hK, e_u_ne hk, e_u_na (by decide)]
  have k2 : ∀ j, K 502 j = if j = bPl B then x else J 502 j := fun j => by rw [← hK, e_u_na (by decide), e_u_at]
  have hR : ∀ r, r ≠ 1 → bR (adPl B x) r = bR B r := fun r hr => e_u_na hr
  have f1 : ∀ k, bR (adPl B x) 1 k = if k = bPl B then x else bR B 1 k := fun k => by
    show e_u (bR B) 1 (bPl B) x 1 k = _
    rw [e_u_at]
  refine ⟨(k9 31 (by decide)).trans h1, by rw [← hK, e_u_same]; rfl, (k9 33 (by decide)).trans h3, (k9 34 (by decide)).trans h4, (k9 35 (by decide)).trans h5, (k9 36 (by decide)).trans h6, (k9 37 (by decide)).trans h7, fun q => (k9 38 (by decide)).trans (h8 q), ?_, ?_, ?_, ?_, ?_, ?_⟩
  · intro a ha
    have ha' : a < bPl B + 1 := ha
    rw [k2, f1]
    by_cases e : a = bPl B
    · rw [if_pos e, if_pos e]
    · rw [if_neg e, if_neg e]; exact h9 a (by omega)
  · rw [kr 503 (by decide) (by decide), kr 504 (by decide) (by decide), kr 505 (by decide) (by decide), hR 2 (by decide), hR 3 (by decide), hR 4 (by decide)]; exact h10
  · rw [kr 506 (by decide) (by decide), kr 507 (by decide) (by decide), kr 511 (by decide) (by decide), hR 5 (by decide), hR 6 (by decide), hR 10 (by decide)]; exact h11
  · rw [kr 508 (by decide) (by decide), kr 509 (by decide) (by decide), kr 510 (by decide) (by decide), hR 7 (by decide), hR 8 (by decide), hR 9 (by decide)]; exact h12
  · rw [kr 511 (by decide) (by decide), hR 10 (by decide)]; exact h13
  · rw [kr 512 (by decide) (by decide)]; exact h14
theorem RN_wy {J : Nat → Nat → Int32} {B : e_B} {a c g : Nat} (h : RN J B) (ha : J 503 (bWy B) = e_n (a : Nat)) (hc : J 504 (bWy B) = e_n (c : Nat)) : RN (e_u (e_u J 505 (bWy B) (e_n (g : Nat))) 489 33 (e_n ((bWy B + 1 : Nat) : Nat))) (adWy B a c g) := by
  obtain ⟨h1, h2, h3, h4, h5, h6, h7, h8, h9, h10, h11, h12, h13, h14⟩ := h
  generalize hK : (e_u (e_u J 505 (bWy B) (e_n (g : Nat))) 489 33 (e_n ((bWy B + 1 : Nat) : Nat))) = K
  have kr : ∀ r, r ≠ 489 → r ≠ 505 → K r = J r := fun r a1 a2 => by rw [← hK, e_u_na a1, e_u_na a2]
  have k9 : ∀ k, k ≠ 33 → K 489 k = J 489 k := fun k hk => by rw [← hK, e_u_ne hk, e_u_na (by decide)]
  have k5 : ∀ j, K 505 j = if j = bWy B then e_n (g : Nat) else J 505 j := fun j => by rw [← hK, e_u_na (by decide), e_u_at]
  have hR : ∀ r, r ≠ 2 → r ≠ 3 → r ≠ 4 → bR (adWy B a c g) r = bR B r := fun r h2 h3 h4 => (e_u_na h4).trans ((e_u_na h3).trans (e_u_na h2))
  refine ⟨(k9 31 (by decide)).trans h1, (k9 32 (by decide)).trans h2, by rw [← hK, e_u_same]; rfl, (k9 34 (by decide)).trans h4, (k9 35 (by decide)).trans h5, (k9 36 (by decide)).trans h6, (k9 37 (by decide)).trans h7, fun q => (k9 38 (by decide)).trans (h8 q), ?_, ?_, ?_, ?_, ?_, ?_⟩
  · rw [kr 502 (by decide) (by decide), hR 1 (by decide) (by decide) (by decide)]; exact h9
  · intro w hw
    have hw' : w < bWy B + 1 := hw
    have f2 : bR (adWy B a c g) 2 w = if w = bWy B then e_n (a : Nat) else bR B 2 w := by
      show e_u (e_u (e_u (bR B) 2 (bWy B) (e_n (a : Nat))) 3 (bWy B) (e_n (c : Nat))) 4 (bWy B) (e_n (g : Nat)) 2 w = _
      rw [e_u_na (by decide), e_u_na (by decide), e_u_at]
    have f3 : bR (adWy B a c g) 3 w = if w = bWy B then e_n (c : Nat) else bR B 3 w := by
      show e_u (e_u (e_u (bR B) 2 (bWy B) (e_n (a : Nat))) 3 (bWy B) (e_n (c : Nat))) 4 (bWy B) (e_n (g : Nat)) 3 w = _
      rw [e_u_na (by decide), e_u_at, e_u_na (by decide)]
    have f4 : bR (adWy B a c g) 4 w = if w = bWy B then e_n (g : Nat) else bR B 4 w := by
      show e_u (e_u (e_u (bR B) 2 (bWy B) (e_n (a : Nat))) 3 (bWy B) (e_n (c : Nat))) 4 (bWy B) (e_n (g : Nat)) 4 w = _
      rw [e_u_at, e_u_na (by decide), e_u_na (by decide)]
    rw [kr 503 (by decide) (by decide), kr 504 (by decide) (by decide), k5, f2, f3, f4]
    by_cases e : w = bWy B
    · rw [if_pos e, if_pos e, if_pos e, if_pos e, e]
      exact ⟨ha, hc, rfl⟩
    · rw [if_neg e, if_neg e, if_neg e, if_neg e]; exact h10 w (by omega)
  · rw [kr 506 (by decide) (by decide), kr 507 (by decide) (by decide), kr 511 (by decide) (by decide), hR 5 (by decide) (by decide) (by decide), hR 6 (by decide) (by decide) (by decide), hR 10 (by decide) (by decide) (by decide)]; exact h11
  · rw [kr 508 (by decide) (by decide), kr 509 (by decide) (by decide), kr 510 (by decide) (by decide), hR 7 (by decide) (by decide) (by decide), hR 8 (by decide) (by decide) (by decide), hR 9 (by decide) (by decide) (by decide)]; exact h12
  · rw [kr 511 (by decide) (by decide), hR 10 (by decide) (by decide) (by decide)]; exact h13
  · rw [kr 512 (by decide) (by decide)]; exact h14
theorem RN_pe {J : Nat → Nat → Int32} {B : e_B} {g a : Nat} (wb : WB B) (h9' : bPe B < 9) (h : RN J B) (hg : J 506 (bPe B) = e_n (g : Nat)) : RN (e_u (e_u (e_u J 511 (22 + bPe B) (e_n (a : Nat))) 507 (bPe B) (e_n 0)) 489 34 (e_n ((bPe B + 1 : Nat) : Nat))) (adPe B g a) := by
  obtain ⟨h1, h2, h3, h4, h5, h6, h7, h8, h9, h10, h11, h12, h13, h14⟩ := h
  generalize hK : (e_u (e_u (e_u J 511 (22 + bPe B) (e_n (a : Nat))) 507 (bPe B) (e_n 0)) 489 34 (e_n ((bPe B + 1 : Nat) : Nat))) = K
  have kr : ∀ r, r ≠ 489 → r ≠ 507 → r ≠ 511 → K r = J r := fun r a1 a2 a3 => by rw [← hK, e_u_na a1, e_u_na a2, e_u_na a3]
  have k9 : ∀ k, k ≠ 34 → K 489 k = J 489 k := fun k hk => by rw [← hK, e_u_ne hk, e_u_na (by decide), e_u_na (by decide)]
  have k7 : ∀ j, K 507 j = if j = bPe B then e_n 0 else J 507 j := fun j => by rw [← hK, e_u_na (by decide), e_u_at, e_u_na (by decide)]
  have k11 : ∀ j, K 511 j = if j = 22 + bPe B then e_n (a : Nat) else J 511 j := fun j => by rw [← hK, e_u_na (by decide), e_u_na (by decide), e_u_at]
  have hR : ∀ r, r ≠ 5 → r ≠ 10 → r ≠ 6 → bR (adPe B g a) r = bR B r := fun r h2 h3 h4 => (e_u_na h4).trans ((e_u_na h3).trans (e_u_na h2))
  have f10 : ∀ k, bR (adPe B g a) 10 k = if k = 22 + bPe B then e_n (a : Nat) else bR B 10 k := fun k => by
    show e_u (e_u (e_u (bR B) 5 (bPe B) (e_n (g : Nat))) 10 (22 + bPe B) (e_n (a : Nat))) 6 (bPe B) (e_n 0) 10 k = _
    rw [e_u_na (by decide), e_u_at, e_u_na (by decide)]
  refine ⟨(k9 31 (by decide)).trans h1, (k9 32 (by decide)).trans h2, (k9 33 (by decide)).trans h3, by rw [← hK, e_u_same]; rfl, (k9 35 (by decide)).trans h5, (k9 36 (by decide)).trans h6, (k9 37 (by decide)).trans h7, fun q => (k9 38 (by decide)).trans (h8 q), ?_, ?_, ?_, ?_, ?_, ?_⟩
  · rw [kr 502 (by decide) (by decide) (by decide), hR 1 (by decide) (by decide) (by decide)]; exact h9
  · rw [kr 503 (by decide) (by decide) (by decide), kr 504 (by decide) (by decide) (by decide), kr 505 (by decide) (by decide) (by decide), hR 2 (by decide) (by decide) (by decide), hR 3 (by decide) (by decide) (by decide), hR 4 (by decide) (by decide) (by decide)]; exact h10
  · intro p hp
    have hp' : p < bPe B + 1 := hp
    have f5 : bR (adPe B g a) 5 p = if p = bPe B then e_n (g : Nat) else bR B 5 p := by
      show e_u (e_u (e_u (bR B) 5 (bPe B) (e_n (g : Nat))) 10 (22 + bPe B) (e_n (a : Nat))) 6 (bPe B) (e_n 0) 5 p = _
      rw [e_u_na (by decide), e_u_na (by decide), e_u_at]
    have f6 : bR (adPe B g a) 6 p = if p = bPe B then e_n 0 else bR B 6 p := by
      show e_u (e_u (e_u (bR B) 5 (bPe B) (e_n (g : Nat))) 10 (22 + bPe B) (e_n (a : Nat))) 6 (bPe B) (e_n 0) 6 p = _
      rw [e_u_at, e_u_na (by decide), e_u_na (by decide)]
    rw [kr 506 (by decide) (by decide) (by decide), k7, k11, f5, f6, f10]
    by_cases e : p = bPe B
    · rw [if_pos e, if_pos e, if_pos e, if_pos (by omega), if_pos (by omega), e]
      exact ⟨hg, rfl, rfl⟩
    · rw [if_neg e, if_neg e, if_neg e, if_neg (by omega), if_neg (by omega)]; exact h11 p (by omega)
  · rw [kr 508 (by decide) (by decide) (by decide), kr 509 (by decide) (by decide) (by decide), kr 510 (by decide) (by decide) (by decide), hR 7 (by decide) (by decide) (by decide), hR 8 (by decide) (by decide) (by decide), hR 9 (by decide) (by decide) (by decide)]; exact h12
  · intro m hm
    rw [k11, f10, if_neg (by omega), if_neg (by omega)]; exact h13 m hm
  · rw [kr 512 (by decide) (by decide) (by decide)]; exact h14
theorem RN_ki {J : Nat → Nat → Int32} {B : e_B} {a c : Nat} (ha : a < bPe B) (hc : c < bPe B) (hac : ¬ c = a) (h : RN J B) : RN (e_u (e_u (e_u J 507 a (J 507 a ||| e_shl (e_n 1) (e_n (c : Nat)))) 507 c ((e_u J 507 a (J 507 a ||| e_shl (e_n 1) (e_n (c : Nat)))) 507 c ||| e_shl (e_n 1) (e_n (a : Nat)))) 489 35 (e_n ((bKi B + 1 : Nat) : Nat))) (adKi B a c) := by
  obtain ⟨h1, h2, h3, h4, h5, h6, h7, h8, h9, h10, h11, h12, h13, h14⟩ := h
  rw [e_u_ne hac, (h11 c hc).2.1, (h11 a ha).2.1]
  generalize hK : (e_u (e_u (e_u J 507 a (bR B 6 a ||| e_shl (e_n 1) (e_n (c : Nat)))) 507 c (bR B 6 c ||| e_shl (e_n 1) (e_n (a : Nat)))) 489 35 (e_n ((bKi B + 1 : Nat) : Nat))) = K
  have kr : ∀ r, r ≠ 489 → r ≠ 507 → K r = J r := fun r a1 a2 => by rw [← hK, e_u_na a1, e_u_na a2, e_u_na a2]
  have k9 : ∀ k, k ≠ 35 → K 489 k = J 489 k := fun k hk => by rw [← hK, e_u_ne hk, e_u_na (by decide), e_u_na (by decide)]
  have hR : ∀ r, r ≠ 6 → bR (adKi B a c) r = bR B r := fun r h2 => (e_u_na h2).trans (e_u_na h2)
  refine ⟨(k9 31 (by decide)).trans h1, (k9 32 (by decide)).trans h2, (k9 33 (by decide)).trans h3, (k9 34 (by decide)).trans h4, by rw [← hK, e_u_same]; rfl, (k9 36 (by decide)).trans h6, (k9 37 (by decide)).trans h7, fun q => (k9 38 (by decide)).trans (h8 q), ?_, ?_, ?_, ?_, ?_, ?_⟩
  · rw [kr 502 (by decide) (by decide), hR 1 (by decide)]; exact h9
  · rw [kr 503 (by decide) (by decide), kr 504 (by decide) (by decide), kr 505 (by decide) (by decide), hR 2 (by decide), hR 3 (by decide), hR 4 (by decide)]; exact h10
  · intro p hp
    have e7 : K 507 p = if p = c then bR B 6 c ||| e_shl (e_n 1) (e_n (a : Nat)) else if p = a then bR B 6 a ||| e_shl (e_n 1) (e_n (c : Nat)) else J 507 p := by rw [← hK, e_u_na (by decide), e_u_at, e_u_at]
    have f6 : bR (adKi B a c) 6 p = if p = c then bR B 6 c ||| e_shl (e_n 1) (e_n (a : Nat)) else if p = a then bR B 6 a ||| e_shl (e_n 1) (e_n (c : Nat)) else bR B 6 p := by
      show e_u (e_u (bR B) 6 a (bR B 6 a ||| e_shl (e_n 1) (e_n (c : Nat)))) 6 c (bR B 6 c ||| e_shl (e_n 1) (e_n (a : Nat))) 6 p = _
      rw [e_u_at, e_u_at]
    rw [kr 506 (by decide) (by decide), kr 511 (by decide) (by decide), hR 5 (by decide), hR 10 (by decide), e7, f6, (h11 p hp).2.1]
    exact ⟨(h11 p hp).1, rfl, (h11 p hp).2.2⟩
  · rw [kr 508 (by decide) (by decide), kr 509 (by decide) (by decide), kr 510 (by decide) (by decide), hR 7 (by decide), hR 8 (by decide), hR 9 (by decide)]; exact h12
  · rw [kr 511 (by decide) (by decide), hR 10 (by decide)]; exact h13
  · rw [kr 512 (by decide) (by decide)]; exact h14
theorem RN_ti {J : Nat → Nat → Int32} {B : e_B} {m c : Nat} {is : Int32} (h : RN J B) : RN (e_u (e_u (e_u (e_u J 508 (bTi B) (e_n (m : Nat))) 509 (bTi B) (e_n (c : Nat))) 510 (bTi B) is) 489 36 (e_n ((bTi B + 1 : Nat) : Nat))) (adTi B m c is) := by
  obtain ⟨h1, h2, h3, h4, h5, h6, h7, h8, h9, h10, h11, h12, h13, h14⟩ := h
  generalize hK : (e_u (e_u (e_u (e_u J 508 (bTi B) (e_n (m : Nat))) 509 (bTi B) (e_n (c : Nat))) 510 (bTi B) is) 489 36 (e_n ((bTi B + 1 : Nat) : Nat))) = K
  have kr : ∀ r, r ≠ 489 → r ≠ 508 → r ≠ 509 → r ≠ 510 → K r = J r := fun r a1 a2 a3 a4 => by rw [← hK, e_u_na a1, e_u_na a4, e_u_na a3, e_u_na a2]
  have k9 : ∀ k, k ≠ 36 → K 489 k = J 489 k := fun k hk => by rw [← hK, e_u_ne hk, e_u_na (by decide), e_u_na (by decide), e_u_na (by decide)]
  have hR : ∀ r, r ≠ 7 → r ≠ 8 → r ≠ 9 → bR (adTi B m c is) r = bR B r := fun r h2 h3 h4 => (e_u_na h4).trans ((e_u_na h3).trans (e_u_na h2))
  refine ⟨(k9 31 (by decide)).trans h1, (k9 32 (by decide)).trans h2, (k9 33 (by decide)).trans h3, (k9 34 (by decide)).trans h4, (k9 35 (by decide)).trans h5, by rw [← hK, e_u_same]; rfl, (k9 37 (by decide)).trans h7, fun q => (k9 38 (by decide)).trans (h8 q), ?_, ?_, ?_, ?_, ?_, ?_⟩
  · rw [kr 502 (by decide) (by decide) (by decide) (by decide), hR 1 (by decide) (by decide) (by decide)]; exact h9
  · rw [kr 503 (by decide) (by decide) (by decide) (by decide), kr 504 (by decide) (by decide) (by decide) (by decide), kr 505 (by decide) (by decide) (by decide) (by decide), hR 2 (by decide) (by decide) (by decide), hR 3 (by decide) (by decide) (by decide), hR 4 (by decide) (by decide) (by decide)]; exact h10
  · rw [kr 506 (by decide) (by decide) (by decide) (by decide), kr 507 (by decide) (by decide) (by decide) (by decide), kr 511 (by decide) (by decide) (by decide) (by decide), hR 5 (by decide) (by decide) (by decide), hR 6 (by decide) (by decide) (by decide), hR 10 (by decide) (by decide) (by decide)]; exact h11
  · intro k hk
    have hk' : k < bTi B + 1 := hk
    have f7 : bR (adTi B m c is) 7 k = if k = bTi B then e_n (m : Nat) else bR B 7 k := by
      show e_u (e_u (e_u (bR B) 7 (bTi B) (e_n (m : Nat))) 8 (bTi B) (e_n (c : Nat))) 9 (bTi B) is 7 k = _
      rw [e_u_na (by decide), e_u_na (by decide), e_u_at]
    have f8 : bR (adTi B m c is) 8 k = if k = bTi B then e_n (c : Nat) else bR B 8 k := by
      show e_u (e_u (e_u (bR B) 7 (bTi B) (e_n (m : Nat))) 8 (bTi B) (e_n (c : Nat))) 9 (bTi B) is 8 k = _
      rw [e_u_na (by decide), e_u_at, e_u_na (by decide)]
    have f9 : bR (adTi B m c is) 9 k = if k = bTi B then is else bR B 9 k := by
      show e_u (e_u (e_u (bR B) 7 (bTi B) (e_n (m : Nat))) 8 (bTi B) (e_n (c : Nat))) 9 (bTi B) is 9 k = _
      rw [e_u_at, e_u_na (by decide), e_u_na (by decide)]
    have e8 : K 508 k = if k = bTi B then e_n (m : Nat) else J 508 k := by rw [← hK, e_u_na (by decide), e_u_na (by decide), e_u_na (by decide), e_u_at]
    have e9 : K 509 k = if k = bTi B then e_n (c : Nat) else J 509 k := by rw [← hK, e_u_na (by decide), e_u_na (by decide), e_u_at, e_u_na (by decide)]
    have e10 : K 510 k = if k = bTi B then is else J 510 k := by rw [← hK, e_u_na (by decide), e_u_at, e_u_na (by decide), e_u_na (by decide)]
    rw [e8, e9, e10, f7, f8, f9]
    by_cases e : k = bTi B
    · rw [if_pos e, if_pos e, if_pos e, if_pos e, if_pos e, if_pos e]
      exact ⟨rfl, rfl, rfl⟩
    · rw [if_neg e, if_neg e, if_neg e, if_neg e, if_neg e, if_neg e]; exact h12 k (by omega)
  · rw [kr 511 (by decide) (by decide) (by decide) (by decide), hR 10 (by decide) (by decide) (by decide)]; exact h13
  · rw [kr 512 (by decide) (by decide) (by decide) (by decide)]; exact h14
end S99zzg
