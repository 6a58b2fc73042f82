/-! the class reads lines -/
section S99zze
def TS (J : Nat → Nat → Int32) (b : Nat → Int32) (n p : Nat) : Prop := TK J b n p ∧ J 44 2 = e_n 0 ∧ J 44 3 = e_n (-1)
def SFr (I J : Nat → Nat → Int32) : Prop := ∀ r, r ≠ 44 → r ≠ 45 → J r = I r
theorem SFr_rf {I : Nat → Nat → Int32} : SFr I I := fun _ _ _ => rfl
theorem SFr_tr {a b c : Nat → Nat → Int32} (h : SFr a b) (g : SFr b c) : SFr a c := fun r h1 h2 => (g r h1 h2).trans (h r h1 h2)
theorem TS_0 {J : Nat → Nat → Int32} {b : Nat → Int32} {n p : Nat} (h : TS J b n p) : J 44 2 = 0 := h.2.1
theorem TS_k {J : Nat → Nat → Int32} {b : Nat → Int32} {n p : Nat} (h : TS J b n p) : J 45 7 = ckC b n p ∧ J 45 8 = e_n (p : Nat) ∧ J 45 9 = cvC b n p := by
  obtain ⟨⟨T, c, h1, h2, h3, h4, h5, h6, h7, h8, h9, h10⟩, -⟩ := h
  exact ⟨h8, h9, h10⟩
theorem TS_fr {J J' : Nat → Nat → Int32} {b : Nat → Int32} {n p : Nat} (h : TS J b n p) (hf : ∀ r, 44 ≤ r → r < 50 → J' r = J r) : TS J' b n p := by
  obtain ⟨⟨T, c, h1, h2, h3, h4, h5, h6, h7, h8, h9, h10⟩, h11, h12⟩ := h
  refine ⟨⟨T, c, h1, h2, h3, h4, ?_, ?_, ?_, ?_, ?_, ?_⟩, ?_, ?_⟩
  · rw [hf 45 (by decide) (by decide)]; exact h5
  · intro u hu
    rw [hf 47 (by decide) (by decide), hf 48 (by decide) (by decide), hf 49 (by decide) (by decide)]
    exact h6 u hu
  · rw [hf 45 (by decide) (by decide)]; exact h7
  · rw [hf 45 (by decide) (by decide)]; exact h8
  · rw [hf 45 (by decide) (by decide)]; exact h9
  · rw [hf 45 (by decide) (by decide)]; exact h10
  · rw [hf 44 (by decide) (by decide)]; exact h11
  · rw [hf 44 (by decide) (by decide)]; exact h12
theorem TS_s {J : Nat → Nat → Int32} {b : Nat → Int32} {n p : Nat} {c : Int32} (h : TS J b n p) : (J 45 7 = e_n 4 ∧ J 45 9 = c) ↔ Ysg b n p c := by
  obtain ⟨h1, -, h2⟩ := TS_k h
  rw [h1, h2]
  exact ck_S
theorem ts_step {d : Nat} {z : e_Z} {J : Nat → Nat → Int32} {b : Nat → Int32} {n p : Nat} (h : TS J b n p) : ∃ J', e_E (d + 2) 112 [.ref 45] (mk J z) = some (.inl none, mk J' z) ∧ TS J' b n (nxP b n p) ∧ SFr J J' := by
  obtain ⟨J', e1, e2, e3, e4⟩ := c112h (d := d) (z := z) h.1
  exact ⟨J', e1, ⟨e2, by rw [e3 44 (by decide)]; exact h.2.1, by rw [e3 44 (by decide)]; exact h.2.2⟩, fun r h1 h2 => e3 r h2⟩
theorem ts_fail {d f : Nat} {x : Int32} {z : e_Z} {J : Nat → Nat → Int32} {b : Nat → Int32} {n p : Nat} (hx : x = e_n (f : Nat)) (h : TS J b n p) (hf : 1 ≤ f) (hf5 : f ≤ 5) : ∃ J', e_E (d + 1) 61 [.ref 44, .int x] (mk J z) = some (.inl none, mk J' z) ∧ CF J' f p ∧ SFr J J' := by
  subst hx
  refine ⟨e_u (e_u J 44 2 (e_n (f : Nat))) 44 3 (J 45 8), ?_, ⟨?_, ?_, hf, hf5⟩, fun r h1 h2 => ?_⟩
  · rw [c61, if_pos (TS_0 h)]
  · rw [e_u_ne (by decide), e_u_same]
  · rw [e_u_same]; exact (TS_k h).2.1
  · rw [e_u_na h1, e_u_na h1]
theorem c67g {d : Nat} {z : e_Z} {J : Nat → Nat → Int32} {b : Nat → Int32} {n p : Nat} (h : TS J b n p) : ∃ J', e_E (d + 3) 67 [.ref 44] (mk J z) = some (.inl none, mk J' z) ∧ TS J' b n (nxP b n p) ∧ SFr J J' := by
  obtain ⟨J', e1, e2, e3⟩ := ts_step (d := d) (z := z) h
  refine ⟨J', e_E_ret (d := d + 2) ?_, e2, e3⟩
  show e_L (d + 2) 67 0 [.ref 44] [] (mk J z) = _
  rw [C67_0, if_pos (TS_0 h), e1, e_rV_n, C67_14]
theorem c67f {d f q : Nat} {z : e_Z} {J : Nat → Nat → Int32} (h : CF J f q) : e_E (d + 3) 67 [.ref 44] (mk J z) = some (.inl none, mk J z) := by
  refine e_E_ret (d := d + 2) ?_
  show e_L (d + 2) 67 0 [.ref 44] [] (mk J z) = _
  rw [C67_0, if_neg (CF_ne h)]
def NOo (J : Nat → Nat → Int32) (b : Nat → Int32) (n : Nat) (r : Int32) (x : YN) : Prop := match x with
  | .inl q => r = e_n (q.2 : Nat) ∧ TS J b n q.1
  | .inr e => CF J e.1 e.2
theorem NOo_in {J : Nat → Nat → Int32} {b : Nat → Int32} {n q v : Nat} {r : Int32} : NOo J b n r (.inl (q, v)) = (r = e_n (v : Nat) ∧ TS J b n q) := rfl
theorem NOo_er {J : Nat → Nat → Int32} {b : Nat → Int32} {n f q : Nat} {r : Int32} : NOo J b n r (.inr (f, q)) = CF J f q := rfl
theorem c65h {d most : Nat} {z : e_Z} {J : Nat → Nat → Int32} {b : Nat → Int32} {n p : Nat} {x : Int32} (hx : x = e_n (most : Nat)) (hm : most < 1000) (h : TS J b n p) : ∃ J' r, e_E (d + 4) 65 [.ref 44, .int x] (mk J z) = some (.inl (some (.int r)), mk J' z) ∧ NOo J' b n r (Ynum b n most p) ∧ SFr J J' := by
  subst hx
  obtain ⟨h7, h8, h9⟩ := TS_k h
  suffices hx : ∃ J' r, e_L (d + 3) 65 0 [.ref 44, .int (e_n (most : Nat)), .null] [] (mk J z) = some (.inl (some (.int r)), mk J' z) ∧ NOo J' b n r (Ynum b n most p) ∧ SFr J J' by
    obtain ⟨J', r, e1, e2⟩ := hx
    exact ⟨J', r, e_E_ret (d := d + 3) e1, e2⟩
  rw [C65_0, if_pos (TS_0 h)]
  unfold Ynum
  by_cases k2 : tkK b n p = 2
  · rw [if_pos k2, if_pos (by rw [h7]; exact ck_3.mpr k2), h9, cv_2 k2]
    by_cases h4 : 4 < Yln b n p
    · obtain ⟨J1, a1, a2, a3⟩ := ts_fail (d := d + 2) (f := 2) (x := e_n 2) (z := z) rfl h (by decide) (by decide)
      rw [if_pos h4, if_pos rfl, if_pos (Or.inl h4), a1, e_rV_n, C65_51, c67f a2, e_rV_n, C65_55]
      exact ⟨J1, _, rfl, a2, a3⟩
    · obtain ⟨e1, e2⟩ := Yv_e k2 h4
      rw [if_neg h4, e1, if_neg (by rw [e_n_inj (by omega) (by omega) (by omega) (by omega)]; omega)]
      have hlt : (e_n (most : Nat) < e_n (Yv b n p : Nat)) = (most < Yv b n p) := e_n_ltN (by omega) (by omega)
      by_cases hmm : most < Yv b n p
      · obtain ⟨J1, a1, a2, a3⟩ := ts_fail (d := d + 2) (f := 2) (x := e_n 2) (z := z) rfl h (by decide) (by decide)
        rw [if_pos (by rw [hlt]; exact hmm), if_pos (Or.inr hmm), a1, e_rV_n, C65_51, c67f a2, e_rV_n, C65_55]
        exact ⟨J1, _, rfl, a2, a3⟩
      · obtain ⟨J1, a1, a2, a3⟩ := c67g (d := d) (z := z) h
        rw [if_neg (by rw [hlt]; exact hmm), if_neg (fun q => q.elim h4 hmm), a1, e_rV_n, C65_55]
        exact ⟨J1, _, rfl, ⟨rfl, a2⟩, a3⟩
  · obtain ⟨J1, a1, a2, a3⟩ := ts_fail (d := d + 2) (f := 1) (x := e_n 1) (z := z) rfl h (by decide) (by decide)
    rw [if_neg k2, if_neg (by rw [h7]; exact fun q => k2 (ck_3.mp q)), a1, e_rV_n, C65_33, c67f a2, e_rV_n, C65_55]
    exact ⟨J1, _, rfl, a2, a3⟩
theorem c65f {d f q : Nat} {z : e_Z} {J : Nat → Nat → Int32} {x : Int32} (h : CF J f q) : e_E (d + 4) 65 [.ref 44, .int x] (mk J z) = some (.inl (some (.int (e_n 0))), mk J z) := by
  refine e_E_ret (d := d + 3) ?_
  show e_L (d + 3) 65 0 [.ref 44, .int x, .null] [] (mk J z) = _
  rw [C65_0, if_neg (CF_ne h)]
theorem c66f {d f q : Nat} {z : e_Z} {J : Nat → Nat → Int32} {x y : Int32} (h : CF J f q) : e_E (d + 4) 66 [.ref 44, .int x, .int y] (mk J z) = some (.inl (some (.int (e_n 0))), mk J z) := by
  refine e_E_ret (d := d + 3) ?_
  show e_L (d + 3) 66 0 [.ref 44, .int x, .int y, .null] [] (mk J z) = _
  rw [C66_0, if_neg (CF_ne h)]
theorem c66h {d told : Nat} {z : e_Z} {J : Nat → Nat → Int32} {b : Nat → Int32} {n p : Nat} {x mask : Int32} {bar : Nat → Bool} (hx : x = e_n (told : Nat)) (ht : told < 32) (hbar : ∀ v, v < told → (bt mask v = bar v)) (h : TS J b n p) : ∃ J' r, e_E (d + 4) 66 [.ref 44, .int x, .int mask] (mk J z) = some (.inl (some (.int r)), mk J' z) ∧ NOo J' b n r (Yone b n told bar p) ∧ SFr J J' := by
  subst hx
  obtain ⟨h7, h8, h9⟩ := TS_k h
  suffices hx : ∃ J' r, e_L (d + 3) 66 0 [.ref 44, .int (e_n (told : Nat)), .int mask, .null] [] (mk J z) = some (.inl (some (.int r)), mk J' z) ∧ NOo J' b n r (Yone b n told bar p) ∧ SFr J J' by
    obtain ⟨J', r, e1, e2⟩ := hx
    exact ⟨J', r, e_E_ret (d := d + 3) e1, e2⟩
  rw [C66_0, if_pos (TS_0 h)]
  unfold Yone
  by_cases k2 : tkK b n p = 2
  · rw [if_pos k2, if_pos (by rw [h7]; exact ck_3.mpr k2), h9, cv_2 k2]
    by_cases h4 : 4 < Yln b n p
    · obtain ⟨J1, a1, a2, a3⟩ := ts_fail (d := d + 2) (f := 2) (x := e_n 2) (z := z) rfl h (by decide) (by decide)
      rw [if_pos h4, if_pos rfl, if_pos h4, a1, e_rV_n, C66_46, c67f a2, e_rV_n, C66_79]
      exact ⟨J1, _, rfl, a2, a3⟩
    · obtain ⟨e1, e2⟩ := Yv_e k2 h4
      rw [if_neg h4, e1, if_neg (by rw [e_n_inj (by omega) (by omega) (by omega) (by omega)]; omega), if_neg h4]
      have hlt : (e_n (Yv b n p : Nat) < e_n (told : Nat)) = (Yv b n p < told) := e_n_ltN (by omega) (by omega)
      by_cases hmm : Yv b n p < told
      · rw [if_pos (by rw [hlt]; exact hmm), if_neg (show ¬ told ≤ Yv b n p by omega)]
        have hb := hbar _ hmm
        have hm := and_bit mask (i := Yv b n p) (by omega)
        by_cases hbb : bar (Yv b n p) = true
        · obtain ⟨J1, a1, a2, a3⟩ := ts_fail (d := d + 2) (f := 4) (x := e_n 4) (z := z) rfl h (by decide) (by decide)
          rw [if_neg (by rw [hm, hb, hbb]; decide), if_pos hbb, a1, e_rV_n, C66_75, c67f a2, e_rV_n, C66_79]
          exact ⟨J1, _, rfl, a2, a3⟩
        · obtain ⟨J1, a1, a2, a3⟩ := c67g (d := d) (z := z) h
          rw [if_pos (by rw [hm, hb]; simpa using hbb), if_neg hbb, a1, e_rV_n, C66_79]
          exact ⟨J1, _, rfl, ⟨rfl, a2⟩, a3⟩
      · obtain ⟨J1, a1, a2, a3⟩ := ts_fail (d := d + 2) (f := 3) (x := e_n 3) (z := z) rfl h (by decide) (by decide)
        rw [if_neg (by rw [hlt]; exact hmm), if_pos (show told ≤ Yv b n p by omega), a1, e_rV_n, C66_59, c67f a2, e_rV_n, C66_79]
        exact ⟨J1, _, rfl, a2, a3⟩
  · obtain ⟨J1, a1, a2, a3⟩ := ts_fail (d := d + 2) (f := 1) (x := e_n 1) (z := z) rfl h (by decide) (by decide)
    rw [if_neg k2, if_neg (by rw [h7]; exact fun q => k2 (ck_3.mp q)), a1, e_rV_n, C66_33, c67f a2, e_rV_n, C66_79]
    exact ⟨J1, _, rfl, a2, a3⟩
/-- a line's first word -/
theorem c63y {d many most : Nat} {z : e_Z} {J : Nat → Nat → Int32} {b : Nat → Int32} {n p : Nat} {x y : Int32} (hx : x = e_n (many : Nat)) (hy : y = e_n (most : Nat)) (h1 : many < most) (h2 : most < 1000) (h : TS J b n p) : ∃ J', e_E (d + 3) 63 [.ref 44, .int x, .int y] (mk J z) = some (.inl none, mk J' z) ∧ TS J' b n (nxP b n p) ∧ SFr J J' := by
  subst hx hy
  obtain ⟨J', e1, e2, e3⟩ := ts_step (d := d) (z := z) h
  refine ⟨J', e_E_ret (d := d + 2) ?_, e2, e3⟩
  show e_L (d + 2) 63 0 [.ref 44, .int (e_n (many : Nat)), .int (e_n (most : Nat))] [] (mk J z) = _
  rw [C63_0, if_pos (by rw [e_n_ltN (by omega) (by omega)]; exact h1), e1, e_rV_n, C63_20]
theorem c63n {d many most : Nat} {z : e_Z} {J : Nat → Nat → Int32} {b : Nat → Int32} {n p : Nat} {x y : Int32} (hx : x = e_n (many : Nat)) (hy : y = e_n (most : Nat)) (h1 : many = most) (h2 : most < 1000) (h : TS J b n p) : ∃ J', e_E (d + 3) 63 [.ref 44, .int x, .int y] (mk J z) = some (.inl none, mk J' z) ∧ CF J' 2 p ∧ SFr J J' := by
  subst hx hy
  obtain ⟨J', e1, e2, e3⟩ := ts_fail (d := d + 1) (f := 2) (x := e_n 2) (z := z) rfl h (by decide) (by decide)
  refine ⟨J', e_E_ret (d := d + 2) ?_, e2, e3⟩
  show e_L (d + 2) 63 0 [.ref 44, .int (e_n (many : Nat)), .int (e_n (most : Nat))] [] (mk J z) = _
  rw [C63_0, if_neg (by rw [e_n_ltN (by omega) (by omega)]; omega), e1, e_rV_n, C63_10]
def BFr (z : e_Z) (I J : Nat → Nat → Int32) : Prop := ∀ r, r ≠ 44 → r ≠ 45 → ¬ (bd z.2.1.2.1 ≤ r ∧ r < bd z.2.1.2.1 + 20) → J r = I r
theorem BFr_s {z : e_Z} {I J : Nat → Nat → Int32} (h : SFr I J) : BFr z I J := fun r h1 h2 _ => h r h1 h2
theorem BFr_tr {z : e_Z} {a b c : Nat → Nat → Int32} (h : BFr z a b) (g : BFr z b c) : BFr z a c := fun r h1 h2 h3 => (g r h1 h2 h3).trans (h r h1 h2 h3)
theorem BrC_s {z : e_Z} {I J : Nat → Nat → Int32} {B : e_B} (h : BrC I (bd z.2.1.2.1) B) (hf : SFr I J) : BrC J (bd z.2.1.2.1) B := BrC_fr (fun k k1 _ _ _ _ => hf _ (by have := bdr_c z; omega) (by have := bdr_c z; omega)) h
def LOo (z : e_Z) (J : Nat → Nat → Int32) (b : Nat → Int32) (n : Nat) (x : YL) : Prop := match x with
  | .inl q => TS J b n q.1 ∧ BrC J (bd z.2.1.2.1) q.2
  | .inr e => CF J e.1 e.2
theorem LOo_in {z : e_Z} {J : Nat → Nat → Int32} {b : Nat → Int32} {n q : Nat} {B : e_B} : LOo z J b n (.inl (q, B)) = (TS J b n q ∧ BrC J (bd z.2.1.2.1) B) := rfl
theorem LOo_er {z : e_Z} {J : Nat → Nat → Int32} {b : Nat → Int32} {n f q : Nat} : LOo z J b n (.inr (f, q)) = CF J f q := rfl
/-- writes into the board leave the tokens -/
theorem TS_b {z : e_Z} {I J : Nat → Nat → Int32} {b : Nat → Int32} {n p : Nat} (h : TS I b n p) (hf : ∀ r, ¬ (bd z.2.1.2.1 ≤ r ∧ r < bd z.2.1.2.1 + 20) → J r = I r) : TS J b n p := TS_fr h (fun r h1 h2 => hf r (by have := bdr_c z; omega))
theorem c68h {d : Nat} {z : e_Z} {J : Nat → Nat → Int32} {b : Nat → Int32} {n p : Nat} {B : e_B} (wb : WB B) (hT : TS J b n p) (hB : BrC J (bd z.2.1.2.1) B) : ∃ J', e_E (d + 5) 68 [.ref 44] (mk J z) = some (.inl none, mk J' z) ∧ BFr z J J' ∧ LOo z J' b n (Lma b n B p) := by
  have hbb := B2_bd z.2.1.2.1
  have h3 := wb.1
  suffices hx : ∃ J', e_L (d + 4) 68 0 [.ref 44, .null] [] (mk J z) = some (.inl none, mk J' z) ∧ BFr z J J' ∧ LOo z J' b n (Lma b n B p) by
    obtain ⟨J', e1, e2⟩ := hx
    exact ⟨J', e_E_ret (d := d + 4) e1, e2⟩
  have bad : ∀ (K : Nat → Nat → Int32) (f q : Nat) (y : Int32), CF K f q → e_L (d + 4) 68 19 [.ref 44, .null] [.int y] (mk K z) = some (.inl none, mk K z) := fun K f q y hK => by rw [C68_19, if_neg (CF_ne hK)]
  rw [C68_0, hB.1]
  unfold Lma
  by_cases hm : bMa B = 3
  · obtain ⟨J1, a1, a2, a3⟩ := c63n (d := d + 1) (z := z) (x := e_n (bMa B : Nat)) (y := e_n 3) (many := bMa B) (most := 3) rfl rfl hm (by decide) hT
    rw [a1, e_rV_n, C68_12, c65f a2, e_rI_i, bad J1 _ _ _ a2, if_pos hm]
    exact ⟨J1, rfl, BFr_s a3, a2⟩
  · obtain ⟨J1, a1, a2, a3⟩ := c63y (d := d + 1) (z := z) (x := e_n (bMa B : Nat)) (y := e_n 3) (many := bMa B) (most := 3) rfl rfl (by omega) (by decide) hT
    obtain ⟨J2, r, b1, b2, b3⟩ := c65h (d := d) (z := z) (x := e_n 999) (most := 999) rfl (by decide) a2
    rw [a1, e_rV_n, C68_12, b1, e_rI_i, if_neg hm]
    have hB2 := BrC_s hB (SFr_tr a3 b3)
    cases hy : Ynum b n 999 (nxP b n p) with
    | inr e =>
      obtain ⟨f, q⟩ := e
      rw [hy, NOo_er] at b2
      rw [bad J2 _ _ _ b2, Yb_r]
      exact ⟨J2, rfl, BFr_s (SFr_tr a3 b3), b2⟩
    | inl rr =>
      obtain ⟨q, v⟩ := rr
      rw [hy, NOo_in] at b2
      obtain ⟨rfl, b2⟩ := b2
      rw [C68_19, if_pos (TS_0 b2), c2 hbb, e_rV_n, C68_35, hB2.1, wr_N (r := bd z.2.1.2.1 + 12) (by rw [lnb12 hbb]; omega), wr_N (r := bd z.2.1.2.1 + 13) (by rw [lnb13 hbb]; omega), wr_N (r := bd z.2.1.2.1 + 14) (by rw [lnb14 hbb]; omega), e_n_succ]
      have hf : ∀ r, ¬ (bd z.2.1.2.1 ≤ r ∧ r < bd z.2.1.2.1 + 20) → (e_u (e_u (e_u (e_u J2 (bd z.2.1.2.1 + 12) (bMa B) (e_n (v : Nat))) (bd z.2.1.2.1 + 13) (bMa B) (e_n 0)) (bd z.2.1.2.1 + 14) (bMa B) (e_n 0)) (bd z.2.1.2.1) 2 (e_n ((bMa B + 1 : Nat) : Nat))) r = J2 r := fun r hr => by rw [e_u_na (by omega), e_u_na (by omega), e_u_na (by omega), e_u_na (by omega)]
      exact ⟨_, rfl, BFr_tr (BFr_s (SFr_tr a3 b3)) (fun r _ _ hr => hf r hr), TS_b b2 hf, BrC_ma wb hB2⟩
theorem c69h {d : Nat} {z : e_Z} {J : Nat → Nat → Int32} {b : Nat → Int32} {n p : Nat} {B : e_B} (wb : WB B) (hT : TS J b n p) (hB : BrC J (bd z.2.1.2.1) B) : ∃ J', e_E (d + 5) 69 [.ref 44, .int (e_n 9)] (mk J z) = some (.inl none, mk J' z) ∧ BFr z J J' ∧ LOo z J' b n (Lpl b n B p) := by
  have hbb := B2_bd z.2.1.2.1
  have h3 := wb.2.1
  suffices hx : ∃ J', e_L (d + 4) 69 0 [.ref 44, .int (e_n 9), .null] [] (mk J z) = some (.inl none, mk J' z) ∧ BFr z J J' ∧ LOo z J' b n (Lpl b n B p) by
    obtain ⟨J', e1, e2⟩ := hx
    exact ⟨J', e_E_ret (d := d + 4) e1, e2⟩
  have bad : ∀ (K : Nat → Nat → Int32) (f q : Nat) (y : Int32), CF K f q → e_L (d + 4) 69 30 [.ref 44, .int (e_n 9), .null] [.int y] (mk K z) = some (.inl none, mk K z) := fun K f q y hK => by rw [C69_30, if_neg (CF_ne hK)]
  have n9 : ¬ e_n 9 = e_n (-1) := by decide
  rw [C69_0, hB.2.1]
  unfold Lpl
  by_cases hm : bPl B = 8
  · obtain ⟨J1, a1, a2, a3⟩ := c63n (d := d + 1) (z := z) (x := e_n (bPl B : Nat)) (y := e_n 8) (many := bPl B) (most := 8) rfl rfl hm (by decide) hT
    rw [a1, e_rV_n, C69_16, if_neg n9, c65f a2, e_rI_i, bad J1 _ _ _ a2, if_pos hm]
    exact ⟨J1, rfl, BFr_s a3, a2⟩
  · obtain ⟨J1, a1, a2, a3⟩ := c63y (d := d + 1) (z := z) (x := e_n (bPl B : Nat)) (y := e_n 8) (many := bPl B) (most := 8) rfl rfl (by omega) (by decide) hT
    obtain ⟨J2, r, b1, b2, b3⟩ := c65h (d := d) (z := z) (x := e_n 9) (most := 9) rfl (by decide) a2
    rw [a1, e_rV_n, C69_16, if_neg n9, b1, e_rI_i, if_neg hm]
    have hB2 := BrC_s hB (SFr_tr a3 b3)
    cases hy : Ynum b n 9 (nxP b n p) with
    | inr e =>
      obtain ⟨f, q⟩ := e
      rw [hy, NOo_er] at b2
      rw [bad J2 _ _ _ b2, Yb_r]
      exact ⟨J2, rfl, BFr_s (SFr_tr a3 b3), b2⟩
    | inl rr =>
      obtain ⟨q, v⟩ := rr
      rw [hy, NOo_in] at b2
      obtain ⟨rfl, b2⟩ := b2
      rw [C69_30, if_pos (TS_0 b2), c26 hbb, e_rV_n, C69_49, hB2.2.1, wr_N (r := bd z.2.1.2.1 + 2) (by rw [lnb2 hbb]; omega), e_n_succ]
      have hf : ∀ r, ¬ (bd z.2.1.2.1 ≤ r ∧ r < bd z.2.1.2.1 + 20) → (e_u (e_u J2 (bd z.2.1.2.1 + 2) (bPl B) (e_n (v : Nat))) (bd z.2.1.2.1 + 1) 0 (e_n ((bPl B + 1 : Nat) : Nat))) r = J2 r := fun r hr => by rw [e_u_na (by omega), e_u_na (by omega)]
      exact ⟨_, rfl, BFr_tr (BFr_s (SFr_tr a3 b3)) (fun r _ _ hr => hf r hr), TS_b b2 hf, BrC_pl hB2⟩
theorem c69s {d : Nat} {z : e_Z} {J : Nat → Nat → Int32} {b : Nat → Int32} {n p : Nat} {B : e_B} (wb : WB B) (hT : TS J b n p) (hB : BrC J (bd z.2.1.2.1) B) : ∃ J', e_E (d + 5) 69 [.ref 44, .int (e_n (-1))] (mk J z) = some (.inl none, mk J' z) ∧ BFr z J J' ∧ LOo z J' b n (Lse b n B p) := by
  have hbb := B2_bd z.2.1.2.1
  have h3 := wb.2.1
  suffices hx : ∃ J', e_L (d + 4) 69 0 [.ref 44, .int (e_n (-1)), .null] [] (mk J z) = some (.inl none, mk J' z) ∧ BFr z J J' ∧ LOo z J' b n (Lse b n B p) by
    obtain ⟨J', e1, e2⟩ := hx
    exact ⟨J', e_E_ret (d := d + 4) e1, e2⟩
  rw [C69_0, hB.2.1]
  unfold Lse
  by_cases hm : bPl B = 8
  · obtain ⟨J1, a1, a2, a3⟩ := c63n (d := d + 1) (z := z) (x := e_n (bPl B : Nat)) (y := e_n 8) (many := bPl B) (most := 8) rfl rfl hm (by decide) hT
    rw [a1, e_rV_n, C69_16, if_pos rfl, if_neg (CF_ne a2), if_pos hm]
    exact ⟨J1, rfl, BFr_s a3, a2⟩
  · obtain ⟨J1, a1, a2, a3⟩ := c63y (d := d + 1) (z := z) (x := e_n (bPl B : Nat)) (y := e_n 8) (many := bPl B) (most := 8) rfl rfl (by omega) (by decide) hT
    have hB2 := BrC_s hB a3
    rw [a1, e_rV_n, C69_16, if_pos rfl, if_pos (TS_0 a2), if_neg hm, c26 hbb, e_rV_n, C69_49, hB2.2.1, wr_N (r := bd z.2.1.2.1 + 2) (by rw [lnb2 hbb]; omega), e_n_succ]
    have hf : ∀ r, ¬ (bd z.2.1.2.1 ≤ r ∧ r < bd z.2.1.2.1 + 20) → (e_u (e_u J1 (bd z.2.1.2.1 + 2) (bPl B) (e_n (-1))) (bd z.2.1.2.1 + 1) 0 (e_n ((bPl B + 1 : Nat) : Nat))) r = J1 r := fun r hr => by rw [e_u_na (by omega), e_u_na (by omega)]
    exact ⟨_, rfl, BFr_tr (BFr_s a3) (fun r _ _ hr => hf r hr), TS_b a2 hf, BrC_pl hB2⟩
/-- which places a way may not go to -/
theorem way_bar {B : e_B} {a : Nat} (wb : WB B) (ha : a < bPl B) : ∀ v, v < bPl B → bt (e_shl (e_n 1) (e_n (a : Nat)) ||| byS B (e_shl (e_n 1) (e_n (a : Nat))) (e_n (-1)) (e_n (-1))) v = (decide (v = a) || hwy B a v) := by
  intro v hv
  have w2 := wb.2.1
  rw [bt_or, bt_bit (show a < 32 by omega)]
  congr 1
  have key : (bt (byS B (e_shl (e_n 1) (e_n (a : Nat))) (e_n (-1)) (e_n (-1))) v = true) ↔ hwy B a v = true := by
    rw [bt_byS wb]
    unfold hwy
    rw [anyB_i]
    have inj : ∀ x y : Nat, x < 8 → y < 8 → ((e_n (x : Nat) = e_n (y : Nat)) ↔ x = y) := fun x y hx hy => by
      rw [e_n_inj (by omega) (by omega) (by omega) (by omega)]; omega
    constructor
    · rintro ⟨w, hw, -, h⟩
      obtain ⟨⟨x, x1, x2⟩, ⟨y, y1, y2⟩, -⟩ := wb.2.2.2.2.2.2.2.1 w hw
      refine ⟨w, hw, ?_⟩
      have ex : wA B w = x := by unfold wA; rw [x2]; exact e_n_nat' (by omega)
      have ey : wZ B w = y := by unfold wZ; rw [y2]; exact e_n_nat' (by omega)
      rw [ex, ey, bt_bit (show a < 32 by omega), bt_bit (show a < 32 by omega), decide_eq_true_eq, decide_eq_true_eq] at h
      rw [Bool.or_eq_true, decide_eq_true_eq, decide_eq_true_eq, x2, y2, inj x a (by omega) (by omega), inj y v (by omega) (by omega), inj x v (by omega) (by omega), inj y a (by omega) (by omega)]
      omega
    · rintro ⟨w, hw, h⟩
      obtain ⟨⟨x, x1, x2⟩, ⟨y, y1, y2⟩, g, g1, g2⟩ := wb.2.2.2.2.2.2.2.1 w hw
      have ex : wA B w = x := by unfold wA; rw [x2]; exact e_n_nat' (by omega)
      have ey : wZ B w = y := by unfold wZ; rw [y2]; exact e_n_nat' (by omega)
      rw [Bool.or_eq_true, decide_eq_true_eq, decide_eq_true_eq, x2, y2, inj x a (by omega) (by omega), inj y v (by omega) (by omega), inj x v (by omega) (by omega), inj y a (by omega) (by omega)] at h
      refine ⟨w, hw, Or.inr ?_, ?_⟩
      · rw [g2, e_n_lt (by decide) (by decide) (by omega) (by omega)]; omega
      · rw [ex, ey, bt_bit (show a < 32 by omega), bt_bit (show a < 32 by omega), decide_eq_true_eq, decide_eq_true_eq]
        omega
  cases h1 : bt (byS B (e_shl (e_n 1) (e_n (a : Nat))) (e_n (-1)) (e_n (-1))) v with
  | true => rw [key.mp h1]
  | false =>
    cases h2 : hwy B a v with
    | false => rfl
    | true => rw [key.mpr h2] at h1; cases h1
theorem c70h {d : Nat} {z : e_Z} {J : Nat → Nat → Int32} {b : Nat → Int32} {n p : Nat} {B : e_B} (wb : WB B) (hT : TS J b n p) (hB : BrC J (bd z.2.1.2.1) B) : ∃ J', e_E (d + 5) 70 [.ref 44] (mk J z) = some (.inl none, mk J' z) ∧ BFr z J J' ∧ LOo z J' b n (Lwy b n B p) := by
  have hbb := B2_bd z.2.1.2.1
  have h3 := wb.2.2.1
  have h2 := wb.2.1
  suffices hx : ∃ J', e_L (d + 4) 70 0 [.ref 44, .null, .null, .null] [] (mk J z) = some (.inl none, mk J' z) ∧ BFr z J J' ∧ LOo z J' b n (Lwy b n B p) by
    obtain ⟨J', e1, e2⟩ := hx
    exact ⟨J', e_E_ret (d := d + 4) e1, e2⟩
  -- behind a fault
  have b74 : ∀ (K : Nat → Nat → Int32) (f q : Nat) (x1 x2 y : Int32), CF K f q → e_L (d + 4) 70 74 [.ref 44, .int x1, .int x2, .null] [.int y] (mk K z) = some (.inl none, mk K z) := fun K f q x1 x2 y hK => by rw [C70_74, if_neg (CF_ne hK)]
  have b67 : ∀ (K : Nat → Nat → Int32) (f q : Nat) (x1 y : Int32), CF K f q → e_L (d + 4) 70 67 [.ref 44, .int x1, .null, .null] [.int y] (mk K z) = some (.inl none, mk K z) := fun K f q x1 y hK => by rw [C70_67, c65f hK, e_rI_i, b74 K f q _ _ _ hK]
  have b31 : ∀ (K : Nat → Nat → Int32) (f q : Nat) (y : Int32), CF K f q → e_L (d + 4) 70 31 [.ref 44, .null, .null, .null] [.int y] (mk K z) = some (.inl none, mk K z) := fun K f q y hK => by rw [C70_31, c66f hK, e_rI_i, b67 K f q _ _ hK]
  rw [C70_0, hB.2.2.1]
  unfold Lwy
  by_cases hm : bWy B = 12
  · obtain ⟨J1, a1, a2, a3⟩ := c63n (d := d + 1) (z := z) (x := e_n (bWy B : Nat)) (y := e_n 12) (many := bWy B) (most := 12) rfl rfl hm (by decide) hT
    rw [a1, e_rV_n, C70_16, c66f a2, e_rI_i, b31 J1 _ _ _ a2, if_pos hm]
    exact ⟨J1, rfl, BFr_s a3, a2⟩
  · obtain ⟨J1, a1, a2, a3⟩ := c63y (d := d + 1) (z := z) (x := e_n (bWy B : Nat)) (y := e_n 12) (many := bWy B) (most := 12) rfl rfl (by omega) (by decide) hT
    have hB1 := BrC_s hB a3
    obtain ⟨J2, r, b1, b2, b3⟩ := c66h (d := d) (z := z) (x := e_n (bPl B : Nat)) (told := bPl B) (mask := e_n 0) (bar := nob) rfl (by omega) (fun v _ => bt_0 v) a2
    have hB2 := BrC_s hB1 b3
    rw [a1, e_rV_n, C70_16, hB1.2.1, b1, e_rI_i, if_neg hm]
    cases hy : Yone b n (bPl B) nob (nxP b n p) with
    | inr e =>
      obtain ⟨f, q⟩ := e
      rw [hy, NOo_er] at b2
      rw [b31 J2 _ _ _ b2, Yb_r]
      exact ⟨J2, rfl, BFr_s (SFr_tr a3 b3), b2⟩
    | inl rr =>
      obtain ⟨q, a⟩ := rr
      rw [hy, NOo_in] at b2
      obtain ⟨rfl, b2⟩ := b2
      obtain ⟨-, -, ha, -⟩ := Yone_i hy
      obtain ⟨J3, r2, g1, g2, g3⟩ := c66h (d := d) (z := z) (x := e_n (bPl B : Nat)) (told := bPl B) rfl (by omega) (way_bar wb ha) b2
      have hB3 := BrC_s hB2 g3
      rw [C70_31, hB2.2.1, v32h hbb wb hB2, g1, e_rI_i, Yb_l]
      cases hy2 : Yone b n (bPl B) (fun v => decide (v = a) || hwy B a v) q with
      | inr e =>
        obtain ⟨f, q2⟩ := e
        rw [hy2, NOo_er] at g2
        rw [b67 J3 _ _ _ _ g2, Yb_r]
        exact ⟨J3, rfl, BFr_s (SFr_tr (SFr_tr a3 b3) g3), g2⟩
      | inl rr =>
        obtain ⟨q2, c⟩ := rr
        rw [hy2, NOo_in] at g2
        obtain ⟨rfl, g2⟩ := g2
        obtain ⟨J4, r3, i1, i2, i3⟩ := c65h (d := d) (z := z) (x := e_n 60) (most := 60) rfl (by decide) g2
        have hB4 := BrC_s hB3 i3
        rw [C70_67, i1, e_rI_i, Yb_l]
        cases hy3 : Ynum b n 60 q2 with
        | inr e =>
          obtain ⟨f, q3⟩ := e
          rw [hy3, NOo_er] at i2
          rw [b74 J4 _ _ _ _ _ i2, Yb_r]
          exact ⟨J4, rfl, BFr_s (SFr_tr (SFr_tr (SFr_tr a3 b3) g3) i3), i2⟩
        | inl rr =>
          obtain ⟨q3, g⟩ := rr
          rw [hy3, NOo_in] at i2
          obtain ⟨rfl, i2⟩ := i2
          rw [C70_74, if_pos (TS_0 i2), c27 hbb, e_rV_n, C70_95, hB4.2.2.1, wr_N (r := bd z.2.1.2.1 + 3) (by rw [lnb3 hbb]; omega), wr_N (r := bd z.2.1.2.1 + 4) (by rw [lnb4 hbb]; omega), wr_N (r := bd z.2.1.2.1 + 5) (by rw [lnb5 hbb]; omega), e_n_succ]
          have hf : ∀ r, ¬ (bd z.2.1.2.1 ≤ r ∧ r < bd z.2.1.2.1 + 20) → (e_u (e_u (e_u (e_u J4 (bd z.2.1.2.1 + 3) (bWy B) (e_n (a : Nat))) (bd z.2.1.2.1 + 4) (bWy B) (e_n (c : Nat))) (bd z.2.1.2.1 + 5) (bWy B) (e_n (g : Nat))) (bd z.2.1.2.1 + 1) 1 (e_n ((bWy B + 1 : Nat) : Nat))) r = J4 r := fun r hr => by rw [e_u_na (by omega), e_u_na (by omega), e_u_na (by omega), e_u_na (by omega)]
          exact ⟨_, rfl, BFr_tr (BFr_s (SFr_tr (SFr_tr (SFr_tr a3 b3) g3) i3)) (fun r _ _ hr => hf r hr), TS_b i2 hf, BrC_wy hB4⟩
theorem c71h {d : Nat} {z : e_Z} {J : Nat → Nat → Int32} {b : Nat → Int32} {n p : Nat} {B : e_B} (wb : WB B) (hT : TS J b n p) (hB : BrC J (bd z.2.1.2.1) B) : ∃ J', e_E (d + 5) 71 [.ref 44] (mk J z) = some (.inl none, mk J' z) ∧ BFr z J J' ∧ LOo z J' b n (Lpe b n B p) := by
  have hbb := B2_bd z.2.1.2.1
  have h3 := wb.2.2.2.1
  have h2 := wb.2.1
  suffices hx : ∃ J', e_L (d + 4) 71 0 [.ref 44, .null, .null] [] (mk J z) = some (.inl none, mk J' z) ∧ BFr z J J' ∧ LOo z J' b n (Lpe b n B p) by
    obtain ⟨J', e1, e2⟩ := hx
    exact ⟨J', e_E_ret (d := d + 4) e1, e2⟩
  have b35 : ∀ (K : Nat → Nat → Int32) (f q : Nat) (x1 y : Int32), CF K f q → e_L (d + 4) 71 35 [.ref 44, .int x1, .null] [.int y] (mk K z) = some (.inl none, mk K z) := fun K f q x1 y hK => by rw [C71_35, if_neg (CF_ne hK)]
  have b19 : ∀ (K : Nat → Nat → Int32) (f q : Nat) (y : Int32), CF K f q → e_L (d + 4) 71 19 [.ref 44, .null, .null] [.int y] (mk K z) = some (.inl none, mk K z) := fun K f q y hK => by rw [C71_19, c66f hK, e_rI_i, b35 K f q _ _ hK]
  rw [C71_0, hB.2.2.2.1]
  unfold Lpe
  by_cases hm : bPe B = 9
  · obtain ⟨J1, a1, a2, a3⟩ := c63n (d := d + 1) (z := z) (x := e_n (bPe B : Nat)) (y := e_n 9) (many := bPe B) (most := 9) rfl rfl hm (by decide) hT
    rw [a1, e_rV_n, C71_13, c65f a2, e_rI_i, b19 J1 _ _ _ a2, if_pos hm]
    exact ⟨J1, rfl, BFr_s a3, a2⟩
  · obtain ⟨J1, a1, a2, a3⟩ := c63y (d := d + 1) (z := z) (x := e_n (bPe B : Nat)) (y := e_n 9) (many := bPe B) (most := 9) rfl rfl (by omega) (by decide) hT
    have hB1 := BrC_s hB a3
    obtain ⟨J2, r, b1, b2, b3⟩ := c65h (d := d) (z := z) (x := e_n 99) (most := 99) rfl (by decide) a2
    have hB2 := BrC_s hB1 b3
    rw [a1, e_rV_n, C71_13, b1, e_rI_i, if_neg hm]
    cases hy : Ynum b n 99 (nxP b n p) with
    | inr e =>
      obtain ⟨f, q⟩ := e
      rw [hy, NOo_er] at b2
      rw [b19 J2 _ _ _ b2, Yb_r]
      exact ⟨J2, rfl, BFr_s (SFr_tr a3 b3), b2⟩
    | inl rr =>
      obtain ⟨q, g⟩ := rr
      rw [hy, NOo_in] at b2
      obtain ⟨rfl, b2⟩ := b2
      obtain ⟨J3, r2, g1, g2, g3⟩ := c66h (d := d) (z := z) (x := e_n (bPl B : Nat)) (told := bPl B) (mask := e_n 0) (bar := nob) rfl (by omega) (fun v _ => bt_0 v) b2
      have hB3 := BrC_s hB2 g3
      rw [C71_19, hB2.2.1, g1, e_rI_i, Yb_l]
      cases hy2 : Yone b n (bPl B) nob q with
      | inr e =>
        obtain ⟨f, q2⟩ := e
        rw [hy2, NOo_er] at g2
        rw [b35 J3 _ _ _ _ g2, Yb_r]
        exact ⟨J3, rfl, BFr_s (SFr_tr (SFr_tr a3 b3) g3), g2⟩
      | inl rr =>
        obtain ⟨q2, a⟩ := rr
        rw [hy2, NOo_in] at g2
        obtain ⟨rfl, g2⟩ := g2
        rw [C71_35, if_pos (TS_0 g2), c3 hbb, e_rV_n, C71_52, hB3.2.2.2.1, wr_N (r := bd z.2.1.2.1 + 15) (by rw [lnb15 hbb]; omega), wr_N (r := bd z.2.1.2.1 + 16) (by rw [lnb16 hbb]; omega), wr_N (r := bd z.2.1.2.1 + 17) (by rw [lnb17 hbb]; omega), e_n_succ]
        have hf : ∀ r, ¬ (bd z.2.1.2.1 ≤ r ∧ r < bd z.2.1.2.1 + 20) → (e_u (e_u (e_u (e_u J3 (bd z.2.1.2.1 + 15) (bPe B) (e_n (g : Nat))) (bd z.2.1.2.1 + 16) (bPe B) (e_n (a : Nat))) (bd z.2.1.2.1 + 17) (bPe B) (e_n 0)) (bd z.2.1.2.1) 6 (e_n ((bPe B + 1 : Nat) : Nat))) r = J3 r := fun r hr => by rw [e_u_na (by omega), e_u_na (by omega), e_u_na (by omega), e_u_na (by omega)]
        exact ⟨_, rfl, BFr_tr (BFr_s (SFr_tr (SFr_tr a3 b3) g3)) (fun r _ _ hr => hf r hr), TS_b g2 hf, BrC_pe wb (by omega) hB3⟩
theorem c72h {d : Nat} {z : e_Z} {J : Nat → Nat → Int32} {b : Nat → Int32} {n p : Nat} {B : e_B} (wb : WB B) (hT : TS J b n p) (hB : BrC J (bd z.2.1.2.1) B) : ∃ J', e_E (d + 5) 72 [.ref 44] (mk J z) = some (.inl none, mk J' z) ∧ BFr z J J' ∧ LOo z J' b n (Lki b n B p) := by
  have hbb := B2_bd z.2.1.2.1
  have h3 := wb.2.2.2.2.1
  have h2 := wb.2.2.2.1
  suffices hx : ∃ J', e_L (d + 4) 72 0 [.ref 44, .null, .null] [] (mk J z) = some (.inl none, mk J' z) ∧ BFr z J J' ∧ LOo z J' b n (Lki b n B p) by
    obtain ⟨J', e1, e2⟩ := hx
    exact ⟨J', e_E_ret (d := d + 4) e1, e2⟩
  have b53 : ∀ (K : Nat → Nat → Int32) (f q : Nat) (x1 y : Int32), CF K f q → e_L (d + 4) 72 53 [.ref 44, .int x1, .null] [.int y] (mk K z) = some (.inl none, mk K z) := fun K f q x1 y hK => by rw [C72_53, if_neg (CF_ne hK)]
  have b25 : ∀ (K : Nat → Nat → Int32) (f q : Nat) (y : Int32), CF K f q → e_L (d + 4) 72 25 [.ref 44, .null, .null] [.int y] (mk K z) = some (.inl none, mk K z) := fun K f q y hK => by rw [C72_25, c66f hK, e_rI_i, b53 K f q _ _ hK]
  rw [C72_0, hB.2.2.2.2.1]
  unfold Lki
  by_cases hm : bKi B = 9
  · obtain ⟨J1, a1, a2, a3⟩ := c63n (d := d + 1) (z := z) (x := e_n (bKi B : Nat)) (y := e_n 9) (many := bKi B) (most := 9) rfl rfl hm (by decide) hT
    rw [a1, e_rV_n, C72_13, c66f a2, e_rI_i, b25 J1 _ _ _ a2, if_pos hm]
    exact ⟨J1, rfl, BFr_s a3, a2⟩
  · obtain ⟨J1, a1, a2, a3⟩ := c63y (d := d + 1) (z := z) (x := e_n (bKi B : Nat)) (y := e_n 9) (many := bKi B) (most := 9) rfl rfl (by omega) (by decide) hT
    have hB1 := BrC_s hB a3
    obtain ⟨J2, r, b1, b2, b3⟩ := c66h (d := d) (z := z) (x := e_n (bPe B : Nat)) (told := bPe B) (mask := e_n 0) (bar := nob) rfl (by omega) (fun v _ => bt_0 v) a2
    have hB2 := BrC_s hB1 b3
    rw [a1, e_rV_n, C72_13, hB1.2.2.2.1, b1, e_rI_i, if_neg hm]
    cases hy : Yone b n (bPe B) nob (nxP b n p) with
    | inr e =>
      obtain ⟨f, q⟩ := e
      rw [hy, NOo_er] at b2
      rw [b25 J2 _ _ _ b2, Yb_r]
      exact ⟨J2, rfl, BFr_s (SFr_tr a3 b3), b2⟩
    | inl rr =>
      obtain ⟨q, a⟩ := rr
      rw [hy, NOo_in] at b2
      obtain ⟨rfl, b2⟩ := b2
      obtain ⟨-, -, ha, -⟩ := Yone_i hy
      have h17 : rd J2 (bd z.2.1.2.1 + 17) (e_n (a : Nat)) = bR B 6 a := by rw [rd_N (r := bd z.2.1.2.1 + 17) (by rw [lnb17 hbb]; omega)]; exact (hB2.2.2.2.2.2.2.2.2.1 a ha).2.1
      obtain ⟨J3, r2, g1, g2, g3⟩ := c66h (d := d) (z := z) (x := e_n (bPe B : Nat)) (told := bPe B) (mask := e_shl (e_n 1) (e_n (a : Nat)) ||| bR B 6 a) (bar := fun v => decide (v = a) || bt (bR B 6 a) v) rfl (by omega) (fun v _ => by rw [bt_or, bt_bit (show a < 32 by omega)]) b2
      have hB3 := BrC_s hB2 g3
      rw [C72_25, hB2.2.2.2.1, h17, g1, e_rI_i, Yb_l]
      cases hy2 : Yone b n (bPe B) (fun v => decide (v = a) || bt (bR B 6 a) v) q with
      | inr e =>
        obtain ⟨f, q2⟩ := e
        rw [hy2, NOo_er] at g2
        rw [b53 J3 _ _ _ _ g2, Yb_r]
        exact ⟨J3, rfl, BFr_s (SFr_tr (SFr_tr a3 b3) g3), g2⟩
      | inl rr =>
        obtain ⟨q2, c⟩ := rr
        rw [hy2, NOo_in] at g2
        obtain ⟨rfl, g2⟩ := g2
        obtain ⟨-, -, hc, hbar⟩ := Yone_i hy2
        have hca : ¬ c = a := fun e => by rw [decide_eq_true e, Bool.true_or] at hbar; cases hbar
        have h17' : ∀ i, i < bPe B → rd J3 (bd z.2.1.2.1 + 17) (e_n (i : Nat)) = J3 (bd z.2.1.2.1 + 17) i := fun i hi => rd_N (by rw [lnb17 hbb]; omega)
        have h6a : J3 (bd z.2.1.2.1 + 17) a = bR B 6 a := (hB3.2.2.2.2.2.2.2.2.1 a ha).2.1
        rw [C72_53, if_pos (TS_0 g2), c4 hbb, e_rV_n, C72_70, h17' a ha, h6a, wr_N (r := bd z.2.1.2.1 + 17) (k := a) (by rw [lnb17 hbb]; omega), wr_N (r := bd z.2.1.2.1 + 17) (k := c) (by rw [lnb17 hbb]; omega), rd_N (k := c) (by rw [lnb17 hbb]; omega), hB3.2.2.2.2.1, e_n_succ]
        have hf : ∀ r, ¬ (bd z.2.1.2.1 ≤ r ∧ r < bd z.2.1.2.1 + 20) → (e_u (e_u (e_u J3 (bd z.2.1.2.1 + 17) a (bR B 6 a ||| e_shl (e_n 1) (e_n (c : Nat)))) (bd z.2.1.2.1 + 17) c ((e_u J3 (bd z.2.1.2.1 + 17) a (bR B 6 a ||| e_shl (e_n 1) (e_n (c : Nat)))) (bd z.2.1.2.1 + 17) c ||| e_shl (e_n 1) (e_n (a : Nat)))) (bd z.2.1.2.1) 10 (e_n ((bKi B + 1 : Nat) : Nat))) r = J3 r := fun r hr => by rw [e_u_na (by omega), e_u_na (by omega), e_u_na (by omega)]
        exact ⟨_, rfl, BFr_tr (BFr_s (SFr_tr (SFr_tr a3 b3) g3)) (fun r _ _ hr => hf r hr), TS_b g2 hf, (BrC_ki ha hc hB3).resolve_right hca⟩
theorem tie_bar {B : e_B} {m : Nat} (wb : WB B) : ∀ v, v < bPe B → bt (fm B (e_n (m : Nat)) (e_n 1) ||| fm B (e_n (m : Nat)) (e_n 0)) v = tdB B m v := by
  intro v hv
  have key : (bt (fm B (e_n (m : Nat)) (e_n 1) ||| fm B (e_n (m : Nat)) (e_n 0)) v = true) ↔ tdB B m v = true := by
    rw [bt_or, Bool.or_eq_true, bt_fm wb, bt_fm wb]
    unfold tdB
    rw [anyB_i]
    constructor
    · rintro (⟨k, hk, h1, h2, h3, -⟩ | ⟨k, hk, h1, h2, h3, -⟩)
      · exact ⟨k, hk, decide_eq_true ⟨h1, h3⟩⟩
      · exact ⟨k, hk, decide_eq_true ⟨h1, h3⟩⟩
    · rintro ⟨k, hk, h⟩
      obtain ⟨h1, h3⟩ := of_decide_eq_true h
      rcases (wb.2.2.2.2.2.2.2.2.2.2.1 k hk).2.2 with h2 | h2
      · exact Or.inr ⟨k, hk, h1, h2, h3, hv⟩
      · exact Or.inl ⟨k, hk, h1, h2, h3, hv⟩
  cases h1 : bt (fm B (e_n (m : Nat)) (e_n 1) ||| fm B (e_n (m : Nat)) (e_n 0)) v with
  | true => rw [key.mp h1]
  | false =>
    cases h2 : tdB B m v with
    | false => rfl
    | true => rw [key.mpr h2] at h1; cases h1
theorem c73h {d : Nat} {z : e_Z} {J : Nat → Nat → Int32} {b : Nat → Int32} {n p : Nat} {B : e_B} {is : Int32} (his : is = e_n 1 ∨ is = e_n 0) (wb : WB B) (hT : TS J b n p) (hB : BrC J (bd z.2.1.2.1) B) : ∃ J', e_E (d + 5) 73 [.ref 44, .int is] (mk J z) = some (.inl none, mk J' z) ∧ BFr z J J' ∧ LOo z J' b n (Lti b n is B p) := by
  have hbb := B2_bd z.2.1.2.1
  have h3 := wb.2.2.2.2.2.1
  have h2 := wb.2.2.2.1
  have h1 := wb.1
  suffices hx : ∃ J', e_L (d + 4) 73 0 [.ref 44, .int is, .null, .null] [] (mk J z) = some (.inl none, mk J' z) ∧ BFr z J J' ∧ LOo z J' b n (Lti b n is B p) by
    obtain ⟨J', e1, e2⟩ := hx
    exact ⟨J', e_E_ret (d := d + 4) e1, e2⟩
  have b45 : ∀ (K : Nat → Nat → Int32) (f q : Nat) (x1 y : Int32), CF K f q → e_L (d + 4) 73 45 [.ref 44, .int is, .int x1, .null] [.int y] (mk K z) = some (.inl none, mk K z) := fun K f q x1 y hK => by rw [C73_45, if_neg (CF_ne hK)]
  have b25 : ∀ (K : Nat → Nat → Int32) (f q : Nat) (y : Int32), CF K f q → e_L (d + 4) 73 25 [.ref 44, .int is, .null, .null] [.int y] (mk K z) = some (.inl none, mk K z) := fun K f q y hK => by rw [C73_25, c66f hK, e_rI_i, b45 K f q _ _ hK]
  rw [C73_0, hB.2.2.2.2.2.1]
  unfold Lti
  by_cases hm : bTi B = 12
  · obtain ⟨J1, a1, a2, a3⟩ := c63n (d := d + 1) (z := z) (x := e_n (bTi B : Nat)) (y := e_n 12) (many := bTi B) (most := 12) rfl rfl hm (by decide) hT
    rw [a1, e_rV_n, C73_13, c66f a2, e_rI_i, b25 J1 _ _ _ a2, if_pos hm]
    exact ⟨J1, rfl, BFr_s a3, a2⟩
  · obtain ⟨J1, a1, a2, a3⟩ := c63y (d := d + 1) (z := z) (x := e_n (bTi B : Nat)) (y := e_n 12) (many := bTi B) (most := 12) rfl rfl (by omega) (by decide) hT
    have hB1 := BrC_s hB a3
    obtain ⟨J2, r, b1, b2, b3⟩ := c66h (d := d) (z := z) (x := e_n (bMa B : Nat)) (told := bMa B) (mask := e_n 0) (bar := nob) rfl (by omega) (fun v _ => bt_0 v) a2
    have hB2 := BrC_s hB1 b3
    rw [a1, e_rV_n, C73_13, hB1.1, b1, e_rI_i, if_neg hm]
    cases hy : Yone b n (bMa B) nob (nxP b n p) with
    | inr e =>
      obtain ⟨f, q⟩ := e
      rw [hy, NOo_er] at b2
      rw [b25 J2 _ _ _ b2, Yb_r]
      exact ⟨J2, rfl, BFr_s (SFr_tr a3 b3), b2⟩
    | inl rr =>
      obtain ⟨q, m⟩ := rr
      rw [hy, NOo_in] at b2
      obtain ⟨rfl, b2⟩ := b2
      obtain ⟨-, -, ha, -⟩ := Yone_i hy
      have h13 : rd J2 (bd z.2.1.2.1 + 13) (e_n (m : Nat)) = fm B (e_n (m : Nat)) (e_n 1) := by rw [rd_N (r := bd z.2.1.2.1 + 13) (by rw [lnb13 hbb]; omega)]; exact (hB2.2.2.2.2.2.2.2.2.2.1 m ha).1
      have h14 : rd J2 (bd z.2.1.2.1 + 14) (e_n (m : Nat)) = fm B (e_n (m : Nat)) (e_n 0) := by rw [rd_N (r := bd z.2.1.2.1 + 14) (by rw [lnb14 hbb]; omega)]; exact (hB2.2.2.2.2.2.2.2.2.2.1 m ha).2.1
      obtain ⟨J3, r2, g1, g2, g3⟩ := c66h (d := d) (z := z) (x := e_n (bPe B : Nat)) (told := bPe B) (mask := fm B (e_n (m : Nat)) (e_n 1) ||| fm B (e_n (m : Nat)) (e_n 0)) (bar := tdB B m) rfl (by omega) (tie_bar wb) b2
      have hB3 := BrC_s hB2 g3
      rw [C73_25, hB2.2.2.2.1, h13, h14, g1, e_rI_i, Yb_l]
      cases hy2 : Yone b n (bPe B) (tdB B m) q with
      | inr e =>
        obtain ⟨f, q2⟩ := e
        rw [hy2, NOo_er] at g2
        rw [b45 J3 _ _ _ _ g2, Yb_r]
        exact ⟨J3, rfl, BFr_s (SFr_tr (SFr_tr a3 b3) g3), g2⟩
      | inl rr =>
        obtain ⟨q2, c⟩ := rr
        rw [hy2, NOo_in] at g2
        obtain ⟨rfl, g2⟩ := g2
        rw [C73_45, if_pos (TS_0 g2), c5 hbb, e_rV_n, C73_63]
        have fin : ∀ r, (r = 13 ∧ is = e_n 1) ∨ (r = 14 ∧ is = e_n 0) → ln (bd z.2.1.2.1 + r) = 3 → ∃ J', (some (.inl none, mk (e_u (wr (wr (wr J3 (bd z.2.1.2.1 + r) (e_n (m : Nat)) (rd J3 (bd z.2.1.2.1 + r) (e_n (m : Nat)) ||| e_shl (e_n 1) (e_n (c : Nat)))) (bd z.2.1.2.1 + 18) (J3 (bd z.2.1.2.1) 11) (e_n (m : Nat))) (bd z.2.1.2.1 + 19) (J3 (bd z.2.1.2.1) 11) (e_n (c : Nat))) (bd z.2.1.2.1) 11 (J3 (bd z.2.1.2.1) 11 + e_n 1)) z) : e_X) = some (.inl none, mk J' z) ∧ BFr z J J' ∧ LOo z J' b n (Yb (Sum.inl (q2, c) : YN) (fun q2 c => .inl (q2, adTi B m c is))) := by
          intro r hr hln
          rw [hB3.2.2.2.2.2.1, wr_N (k := m) (by rw [hln]; omega), rd_N (k := m) (by rw [hln]; omega), wr_N (r := bd z.2.1.2.1 + 18) (k := bTi B) (by rw [lnb18 hbb]; omega), wr_N (r := bd z.2.1.2.1 + 19) (k := bTi B) (by rw [lnb19 hbb]; omega), e_n_succ]
          have hf : ∀ q, ¬ (bd z.2.1.2.1 ≤ q ∧ q < bd z.2.1.2.1 + 20) → (e_u (e_u (e_u (e_u J3 (bd z.2.1.2.1 + r) m (J3 (bd z.2.1.2.1 + r) m ||| e_shl (e_n 1) (e_n (c : Nat)))) (bd z.2.1.2.1 + 18) (bTi B) (e_n (m : Nat))) (bd z.2.1.2.1 + 19) (bTi B) (e_n (c : Nat))) (bd z.2.1.2.1) 11 (e_n ((bTi B + 1 : Nat) : Nat))) q = J3 q := fun q hq => by rw [e_u_na (by omega), e_u_na (by omega), e_u_na (by omega), e_u_na (by omega)]
          exact ⟨_, rfl, BFr_tr (BFr_s (SFr_tr (SFr_tr a3 b3) g3)) (fun r _ _ hr => hf r hr), TS_b g2 hf, BrC_ti wb hr ha hB3⟩
        rcases his with hi | hi
        · rw [if_neg (by rw [hi]; decide)]
          exact fin 13 (Or.inl ⟨rfl, hi⟩) (lnb13 hbb)
        · rw [if_pos (by rw [hi]; decide)]
          exact fin 14 (Or.inr ⟨rfl, hi⟩) (lnb14 hbb)
end S99zze
