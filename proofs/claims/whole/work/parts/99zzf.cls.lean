/-! the class reads a text -/
section S99zzf
theorem c74h {d : Nat} {z : e_Z} {J : Nat → Nat → Int32} {b : Nat → Int32} {n p : Nat} {B : e_B} (hn : n ≤ 700) (hp : p ≤ n) (wb : WB B) (hT : TS J b n p) (hB : BrC J (bd z.2.1.2.1) B) : ∃ J', e_E (d + 53) 74 [.ref 44] (mk J z) = some (.inl none, mk J' z) ∧ BFr z J J' ∧ LOo z J' b n (Lru b n B p) := by
  have hbb := bdr_c z
  suffices hx : ∃ J', e_L (d + 42 + 10) 74 0 [.ref 44] [] (mk J z) = some (.inl none, mk J' z) ∧ BFr z J J' ∧ LOo z J' b n (Lru b n B p) by
    obtain ⟨J', e1, e2⟩ := hx
    exact ⟨J', e_E_ret (d := d + 52) e1, e2⟩
  have h12 : J (bd z.2.1.2.1 + 8) 1 = e_n ((bO B).length : Nat) := hB.2.2.2.2.2.2.2.2.2.2.2.1
  have hlen : (bO B).length ≤ 700 := wb.2.2.2.2.2.2.2.2.2.2.2.1
  unfold Lru
  rw [C74_0, h12]
  by_cases hO : bO B = []
  · rw [if_neg (by rw [hO]; decide), if_neg (fun q => q hO)]
    obtain ⟨J1, a1, a2, a3⟩ := ts_step (d := d + 42 + 8) (z := z) hT
    have hB1 := BrC_s hB a3
    have hS : CS z J1 b n [] (nxP b n p) := ⟨a2.1, a2.2.1, by rw [hB1.2.2.2.2.2.2.2.2.2.2.2.1, hO], fun j hj => absurd hj (Nat.not_lt_zero j), a2.2.2⟩
    have h77 : CX z b n (e_E (d + 42 + 10) 77 [.ref 44, .int (e_n 0)]) (Yexp b n 6) := c77h' hn 6 0 d rfl
    obtain ⟨J2, b1, b2, b3⟩ := h77 J1 [] (nxP b n p) hS (Nat.zero_le _) (nxP_le (b := b) hp).2
    rw [a1, e_rV_n, C74_26, b1, e_rV_n, C74_31]
    have hf : BFr z J J2 := BFr_tr (BFr_s a3) (fun r r1 r2 r3 => b3 r r1 r2 (by omega) (by omega))
    refine ⟨J2, rfl, hf, ?_⟩
    cases hx : Yexp b n 6 (nxP b n p) with
    | inr e =>
      obtain ⟨f, q⟩ := e
      rw [hx, CO_er] at b2
      exact b2
    | inl r =>
      obtain ⟨q, a⟩ := r
      rw [hx, CO_in, List.nil_append] at b2
      rw [Yb_l, LOo_in]
      exact ⟨⟨b2.1, b2.2.1, b2.2.2.2.2⟩, BrC_O hB1 (fun k k1 k2 k3 => b3 _ (by omega) (by omega) (by omega) (by omega)) b2.2.2.1 b2.2.2.2.1⟩
  · have hl : 0 < (bO B).length := List.length_pos_iff.mpr hO
    obtain ⟨J1, a1, a2, a3⟩ := ts_fail (d := d + 42 + 9) (f := 5) (x := e_n 5) (z := z) rfl hT (by decide) (by decide)
    rw [if_pos (by rw [show (0 : Int32) = e_n ((0 : Nat) : Nat) from rfl, e_n_ltN (by omega) (by omega)]; exact hl), if_pos hO, a1, e_rV_n, C74_18]
    exact ⟨J1, rfl, BFr_s a3, a2⟩
theorem c64t {d : Nat} {z : e_Z} {J : Nat → Nat → Int32} {b : Nat → Int32} {n p : Nat} {x : Int32} (h : TS J b n p) : ∃ J', e_E (d + 3) 64 [.ref 44, .int x] (mk J z) = some (.inl none, mk J' z) ∧ SFr J J' ∧ (Ysg b n p x → TS J' b n (nxP b n p)) ∧ (¬ Ysg b n p x → CF J' 1 p) := by
  by_cases hs : Ysg b n p x
  · obtain ⟨J', e1, e2, e3⟩ := ts_step (d := d) (z := z) h
    refine ⟨J', e_E_ret (d := d + 2) ?_, e3, fun _ => e2, fun q => absurd hs q⟩
    show e_L (d + 2) 64 0 [.ref 44, .int x] [] (mk J z) = _
    rw [C64_0, if_pos (TS_0 h), if_pos ((TS_s h).mpr hs), e1, e_rV_n, C64_25]
  · obtain ⟨J', e1, e2, e3⟩ := ts_fail (d := d + 1) (f := 1) (x := e_n 1) (z := z) rfl h (by decide) (by decide)
    refine ⟨J', e_E_ret (d := d + 2) ?_, e3, fun q => absurd q hs, fun _ => e2⟩
    show e_L (d + 2) 64 0 [.ref 44, .int x] [] (mk J z) = _
    rw [C64_0, if_pos (TS_0 h), if_neg (fun q => hs ((TS_s h).mp q)), e1, e_rV_n, C64_33]
theorem semi_c {d s0 : Nat} {z : e_Z} {J1 : Nat → Nat → Int32} {b : Nat → Int32} {n : Nat} {X : YL} (h : LOo z J1 b n X) : ∃ J2, e_L (d + 53) 62 149 [.ref 44, .ref s0] [] (mk J1 z) = some (.inl none, mk J2 z) ∧ BFr z J1 J2 ∧ LOo z J2 b n (Lsm b n X) := by
  unfold Lsm
  cases X with
  | inr e =>
    obtain ⟨f, q⟩ := e
    rw [LOo_er] at h
    refine ⟨J1, ?_, fun _ _ _ _ => rfl, h⟩
    rw [B62_149, c64f (d := d + 50) h, e_rV_n, B62_155]
  | inl r =>
    obtain ⟨q, B⟩ := r
    rw [LOo_in] at h
    obtain ⟨J2, a1, a2, a3, a4⟩ := c64t (d := d + 50) (z := z) (x := e_n 59) h.1
    refine ⟨J2, ?_, BFr_s a2, ?_⟩
    · rw [B62_149, a1, e_rV_n, B62_155]
    · rw [Yb_l]
      by_cases hs : Ysg b n q (e_n 59)
      · rw [if_pos hs, LOo_in]
        exact ⟨a3 hs, BrC_s h.2 a2⟩
      · rw [if_neg hs, LOo_er]
        exact a4 hs
theorem c114t {d : Nat} {z : e_Z} {J : Nat → Nat → Int32} {b : Nat → Int32} {n p : Nat} {B : e_B} (h : TS J b n p) (hB : BrC J (bd z.2.1.2.1) B) : e_E (d + 1) 114 [.ref 45] (mk J z) = some (.inl (some (.ref (Ywr (Yw b n p)))), mk J z) := c114h (cs := bO B) ⟨h.1, h.2.1, hB.2.2.2.2.2.2.2.2.2.2.2.1, hB.2.2.2.2.2.2.2.2.2.2.2.2, h.2.2⟩
theorem c62h {d : Nat} {z : e_Z} {J : Nat → Nat → Int32} {b : Nat → Int32} {n p : Nat} {B : e_B} (hn : n ≤ 700) (hp : p ≤ n) (wb : WB B) (hT : TS J b n p) (hB : BrC J (bd z.2.1.2.1) B) : ∃ J', e_E (d + 54) 62 [.ref 44] (mk J z) = some (.inl none, mk J' z) ∧ BFr z J J' ∧ LOo z J' b n (Yline b n B p) := by
  suffices hx : ∃ J', e_L (d + 53) 62 0 [.ref 44, .null] [] (mk J z) = some (.inl none, mk J' z) ∧ BFr z J J' ∧ LOo z J' b n (Yline b n B p) by
    obtain ⟨J', e1, e2⟩ := hx
    exact ⟨J', e_E_ret (d := d + 53) e1, e2⟩
  rw [B62_0, c114t (d := d + 52) hT hB, e_rF_r, B62_7]
  have bad : ∀ s0, ∃ J', e_L (d + 53) 62 144 [.ref 44, .ref s0] [] (mk J z) = some (.inl none, mk J' z) ∧ BFr z J J' ∧ LOo z J' b n (.inr (1, p)) := by
    intro s0
    obtain ⟨J1, a1, a2, a3⟩ := ts_fail (d := d + 52) (f := 1) (x := e_n 1) (z := z) rfl hT (by decide) (by decide)
    refine ⟨J1, ?_, BFr_s a3, a2⟩
    rw [B62_144, a1, e_rV_n, B62_149, c64f (d := d + 50) a2, e_rV_n, B62_155]
  have go : ∀ (pc pc2 s0 : Nat) (X : YL), (∃ J1, e_L (d + 53) 62 pc [.ref 44, .ref s0] [] (mk J z) = e_L (d + 53) 62 149 [.ref 44, .ref s0] [] (mk J1 z) ∧ BFr z J J1 ∧ LOo z J1 b n X) → ∃ J', e_L (d + 53) 62 pc [.ref 44, .ref s0] [] (mk J z) = some (.inl none, mk J' z) ∧ BFr z J J' ∧ LOo z J' b n (Lsm b n X) := by
    rintro pc pc2 s0 X ⟨J1, e1, e2, e3⟩
    obtain ⟨J2, f1, f2, f3⟩ := semi_c (d := d) (s0 := s0) e3
    exact ⟨J2, e1.trans f1, BFr_tr e2 f2, f3⟩
  have sw : ∀ k, k < 17 → ∀ s0, s0 = 1000100 + cw k → e_L (d + 53) 62 18 [.ref 44, .ref s0] [] (mk J z) = e_L (d + 53) 62 (e_sel [(1, 76), (2, 83), (3, 92), (4, 100), (5, 107), (6, 114), (7, 121), (8, 129), (9, 137)] 144 (e_sm.getD (cw k) 0)) [.ref 44, .ref s0] [] (mk J z) := by
    intro k hk s0 hs
    have hc := (rl_all k hk).2.2.2.1
    have hl : e_sm.length = 17 := rfl
    rw [B62_18]
    unfold e_ord
    rw [if_pos (by omega)]
    show e_L (d + 53) 62 25 [.ref 44, .ref s0] [.int (Int32.ofNat (s0 - 1000100)), .ref 1000001] (mk J z) = _
    rw [B62_25, e_n_of, show s0 - 1000100 = cw k by omega, hl, ck_ok (InR_n (by omega) (by omega) (by omega)), B62_26, e_n_nat' (by omega)]
  rcases Yw_v b n p with ⟨k, hk, e⟩ | e
  · have hc := (rl_all k hk).2.2.2.1
    rw [e, Ywr_k hk, if_pos (by rw [decide_eq_true_eq]; omega), sw k hk _ rfl]
    unfold Yline
    rw [e]
    match k, hk with
    | 0, _ =>
      rw [if_neg (by decide), if_neg (by decide), if_neg (by decide), if_neg (by decide), if_neg (by decide), if_neg (by decide), if_neg (by decide), if_neg (by decide), if_neg (by decide)]
      exact bad _
    | 1, _ =>
      rw [if_neg (by decide), if_neg (by decide), if_neg (by decide), if_neg (by decide), if_neg (by decide), if_neg (by decide), if_neg (by decide), if_neg (by decide), if_neg (by decide)]
      exact bad _
    | 2, _ =>
      rw [if_neg (by decide), if_neg (by decide), if_neg (by decide), if_neg (by decide), if_neg (by decide), if_neg (by decide), if_neg (by decide), if_pos rfl]
      obtain ⟨J1, a1, a2, a3⟩ := c73h (d := d + 48) (Or.inr rfl) wb hT hB
      exact go 129 134 _ _ ⟨J1, by rw [B62_129, a1, e_rV_n, B62_134], a2, a3⟩
    | 3, _ =>
      rw [if_neg (by decide), if_neg (by decide), if_neg (by decide), if_neg (by decide), if_neg (by decide), if_neg (by decide), if_pos rfl]
      obtain ⟨J1, a1, a2, a3⟩ := c73h (d := d + 48) (Or.inl rfl) wb hT hB
      exact go 121 126 _ _ ⟨J1, by rw [B62_121, a1, e_rV_n, B62_126], a2, a3⟩
    | 4, _ =>
      rw [if_neg (by decide), if_neg (by decide), if_neg (by decide), if_neg (by decide), if_neg (by decide), if_pos rfl]
      obtain ⟨J1, a1, a2, a3⟩ := c72h (d := d + 48) wb hT hB
      exact go 114 118 _ _ ⟨J1, by rw [B62_114, a1, e_rV_n, B62_118], a2, a3⟩
    | 5, _ =>
      rw [if_neg (by decide), if_neg (by decide), if_neg (by decide), if_neg (by decide), if_neg (by decide), if_neg (by decide), if_neg (by decide), if_neg (by decide), if_neg (by decide)]
      exact bad _
    | 6, _ =>
      rw [if_neg (by decide), if_neg (by decide), if_neg (by decide), if_neg (by decide), if_neg (by decide), if_neg (by decide), if_neg (by decide), if_neg (by decide), if_neg (by decide)]
      exact bad _
    | 7, _ =>
      rw [if_neg (by decide), if_neg (by decide), if_neg (by decide), if_neg (by decide), if_neg (by decide), if_neg (by decide), if_neg (by decide), if_neg (by decide), if_neg (by decide)]
      exact bad _
    | 8, _ =>
      rw [if_pos rfl]
      obtain ⟨J1, a1, a2, a3⟩ := c68h (d := d + 48) wb hT hB
      exact go 76 80 _ _ ⟨J1, by rw [B62_76, a1, e_rV_n, B62_80], a2, a3⟩
    | 9, _ =>
      rw [if_neg (by decide), if_pos rfl]
      obtain ⟨J1, a1, a2, a3⟩ := c69h (d := d + 48) wb hT hB
      exact go 83 89 _ _ ⟨J1, by rw [B62_83, a1, e_rV_n, B62_89], a2, a3⟩
    | 10, _ =>
      rw [if_neg (by decide), if_neg (by decide), if_pos rfl]
      obtain ⟨J1, a1, a2, a3⟩ := c69s (d := d + 48) wb hT hB
      exact go 92 97 _ _ ⟨J1, by rw [B62_92, a1, e_rV_n, B62_97], a2, a3⟩
    | 11, _ =>
      rw [if_neg (by decide), if_neg (by decide), if_neg (by decide), if_pos rfl]
      obtain ⟨J1, a1, a2, a3⟩ := c70h (d := d + 48) wb hT hB
      exact go 100 104 _ _ ⟨J1, by rw [B62_100, a1, e_rV_n, B62_104], a2, a3⟩
    | 12, _ =>
      rw [if_neg (by decide), if_neg (by decide), if_neg (by decide), if_neg (by decide), if_pos rfl]
      obtain ⟨J1, a1, a2, a3⟩ := c71h (d := d + 48) wb hT hB
      exact go 107 111 _ _ ⟨J1, by rw [B62_107, a1, e_rV_n, B62_111], a2, a3⟩
    | 13, _ =>
      rw [if_neg (by decide), if_neg (by decide), if_neg (by decide), if_neg (by decide), if_neg (by decide), if_neg (by decide), if_neg (by decide), if_neg (by decide), if_pos rfl]
      obtain ⟨J1, a1, a2, a3⟩ := c74h (d := d) hn hp wb hT hB
      exact go 137 141 _ _ ⟨J1, by rw [B62_137, a1, e_rV_n, B62_141], a2, a3⟩
    | 14, _ =>
      rw [if_neg (by decide), if_neg (by decide), if_neg (by decide), if_neg (by decide), if_neg (by decide), if_neg (by decide), if_neg (by decide), if_neg (by decide), if_neg (by decide)]
      exact bad _
    | 15, _ =>
      rw [if_neg (by decide), if_neg (by decide), if_neg (by decide), if_neg (by decide), if_neg (by decide), if_neg (by decide), if_neg (by decide), if_neg (by decide), if_neg (by decide)]
      exact bad _
    | 16, _ =>
      rw [if_neg (by decide), if_neg (by decide), if_neg (by decide), if_neg (by decide), if_neg (by decide), if_neg (by decide), if_neg (by decide), if_neg (by decide), if_neg (by decide)]
      exact bad _
    | k + 17, h => omega
  · have e0 : Ywr (e_n (-1)) = 0 := rfl
    obtain ⟨J1, a1, a2, a3⟩ := ts_fail (d := d + 52) (f := 1) (x := e_n 1) (z := z) rfl hT (by decide) (by decide)
    rw [e, e0, if_neg (by decide), a1, e_rV_n, B62_17]
    refine ⟨J1, rfl, BFr_s a3, ?_⟩
    unfold Yline
    rw [e, if_neg (by decide), if_neg (by decide), if_neg (by decide), if_neg (by decide), if_neg (by decide), if_neg (by decide), if_neg (by decide), if_neg (by decide), if_neg (by decide), LOo_er]
    exact a2
theorem Lsm_i {b : Nat → Int32} {n q : Nat} {r : YL} {B' : e_B} (h : Lsm b n r = .inl (q, B')) : ∃ q0, r = .inl (q0, B') ∧ q0 < n ∧ q = nxP b n q0 := by
  unfold Lsm at h
  cases r with
  | inr e => cases h
  | inl r =>
    obtain ⟨q0, B0⟩ := r
    rw [Yb_l] at h
    by_cases hs : Ysg b n q0 (e_n 59)
    · rw [if_pos hs] at h
      cases h
      exact ⟨q0, rfl, (tk_3 hs.1).1, rfl⟩
    · rw [if_neg hs] at h; cases h
theorem Yb_i {α β : Type} {r : (Nat × α) ⊕ (Nat × Nat)} {f : Nat → α → (Nat × β) ⊕ (Nat × Nat)} {q : Nat} {y : β} (h : Yb r f = .inl (q, y)) : ∃ q0 x, r = .inl (q0, x) ∧ f q0 x = .inl (q, y) := by
  cases r with
  | inr e => cases h
  | inl r =>
    obtain ⟨q0, x⟩ := r
    exact ⟨q0, x, rfl, h⟩
/-- a good line: the board behind it, and on by one byte at the least -/
def LG (n p : Nat) (r : YL) : Prop := ∀ q B', r = .inl (q, B') → WB B' ∧ p < q ∧ q ≤ n
theorem LG_sm {b : Nat → Int32} {n p : Nat} {r : YL} (h : LG n p r) : LG n p (Lsm b n r) := by
  intro q B' hy
  obtain ⟨q0, h1, h2, rfl⟩ := Lsm_i hy
  obtain ⟨a1, a2, a3⟩ := h q0 B' h1
  have := nxP_lt (b := b) h2
  exact ⟨a1, by omega, this.2⟩
theorem LG_line {b : Nat → Int32} {n p : Nat} {B : e_B} (hn : n ≤ 700) (hp : p ≤ n) (wb : WB B) : LG n p (Yline b n B p) := by
  have h1 := wb.1
  have h2 := wb.2.1
  have h3 := wb.2.2.1
  have h4 := wb.2.2.2.1
  have h5 := wb.2.2.2.2.1
  have h6 := wb.2.2.2.2.2.1
  have hx : ∀ k : Nat, k < 17 → Yw b n p = e_n (k : Nat) → p < nxP b n p ∧ nxP b n p ≤ n := fun k hk hw => nxP_lt (tk_1 (Yw_1 hk hw)).1
  unfold Yline
  by_cases w8 : Yw b n p = e_n ((8 : Nat) : Nat)
  · rw [if_pos w8]
    refine LG_sm (fun q B' hy => ?_)
    have hl := hx 8 (by decide) w8
    unfold Lma at hy
    by_cases hm : bMa B = 3
    · rw [if_pos hm] at hy; cases hy
    · rw [if_neg hm] at hy
      obtain ⟨q0, v, e1, e2⟩ := Yb_i hy
      cases e2
      obtain ⟨r1, r2, r3⟩ := Ynum_i e1
      have := nxP_lt (b := b) r2
      exact ⟨WB_ma wb (by omega) r3, by omega, by omega⟩
  rw [if_neg w8]
  by_cases w9 : Yw b n p = e_n ((9 : Nat) : Nat)
  · rw [if_pos w9]
    refine LG_sm (fun q B' hy => ?_)
    have hl := hx 9 (by decide) w9
    unfold Lpl at hy
    by_cases hm : bPl B = 8
    · rw [if_pos hm] at hy; cases hy
    · rw [if_neg hm] at hy
      obtain ⟨q0, v, e1, e2⟩ := Yb_i hy
      cases e2
      obtain ⟨r1, r2, r3⟩ := Ynum_i e1
      have := nxP_lt (b := b) r2
      exact ⟨WB_pl wb (by omega) (Or.inr ⟨v, r3, rfl⟩), by omega, by omega⟩
  rw [if_neg w9]
  by_cases w10 : Yw b n p = e_n ((10 : Nat) : Nat)
  · rw [if_pos w10]
    refine LG_sm (fun q B' hy => ?_)
    have hl := hx 10 (by decide) w10
    unfold Lse at hy
    by_cases hm : bPl B = 8
    · rw [if_pos hm] at hy; cases hy
    · rw [if_neg hm] at hy
      cases hy
      exact ⟨WB_pl wb (by omega) (Or.inl rfl), hl.1, hl.2⟩
  rw [if_neg w10]
  by_cases w11 : Yw b n p = e_n ((11 : Nat) : Nat)
  · rw [if_pos w11]
    refine LG_sm (fun q B' hy => ?_)
    have hl := hx 11 (by decide) w11
    unfold Lwy at hy
    by_cases hm : bWy B = 12
    · rw [if_pos hm] at hy; cases hy
    · rw [if_neg hm] at hy
      obtain ⟨q0, a, e1, e2⟩ := Yb_i hy
      obtain ⟨q2, c, e3, e4⟩ := Yb_i e2
      obtain ⟨q3, g, e5, e6⟩ := Yb_i e4
      cases e6
      obtain ⟨r1, r2, r3, -⟩ := Yone_i e1
      obtain ⟨s1, s2, s3, s4⟩ := Yone_i e3
      obtain ⟨t1, t2, t3⟩ := Ynum_i e5
      have l1 := nxP_lt (b := b) r2
      have l2 := nxP_lt (b := b) s2
      have l3 := nxP_lt (b := b) t2
      rw [Bool.or_eq_false_iff, decide_eq_false_iff_not] at s4
      exact ⟨WB_wy wb (by omega) r3 s3 s4.1 s4.2 t3, by omega, by omega⟩
  rw [if_neg w11]
  by_cases w12 : Yw b n p = e_n ((12 : Nat) : Nat)
  · rw [if_pos w12]
    refine LG_sm (fun q B' hy => ?_)
    have hl := hx 12 (by decide) w12
    unfold Lpe at hy
    by_cases hm : bPe B = 9
    · rw [if_pos hm] at hy; cases hy
    · rw [if_neg hm] at hy
      obtain ⟨q0, a, e1, e2⟩ := Yb_i hy
      obtain ⟨q2, c, e3, e4⟩ := Yb_i e2
      cases e4
      obtain ⟨r1, r2, r3⟩ := Ynum_i e1
      obtain ⟨s1, s2, s3, s4⟩ := Yone_i e3
      have l1 := nxP_lt (b := b) r2
      have l2 := nxP_lt (b := b) s2
      exact ⟨WB_pe wb (by omega) r3 s3, by omega, by omega⟩
  rw [if_neg w12]
  by_cases w4 : Yw b n p = e_n ((4 : Nat) : Nat)
  · rw [if_pos w4]
    refine LG_sm (fun q B' hy => ?_)
    have hl := hx 4 (by decide) w4
    unfold Lki at hy
    by_cases hm : bKi B = 9
    · rw [if_pos hm] at hy; cases hy
    · rw [if_neg hm] at hy
      obtain ⟨q0, a, e1, e2⟩ := Yb_i hy
      obtain ⟨q2, c, e3, e4⟩ := Yb_i e2
      cases e4
      obtain ⟨r1, r2, r3, -⟩ := Yone_i e1
      obtain ⟨s1, s2, s3, s4⟩ := Yone_i e3
      have l1 := nxP_lt (b := b) r2
      have l2 := nxP_lt (b := b) s2
      rw [Bool.or_eq_false_iff, decide_eq_false_iff_not] at s4
      exact ⟨WB_ki wb (by omega) r3 s3 s4.1, by omega, by omega⟩
  rw [if_neg w4]
  have tie : ∀ is, (is = e_n 0 ∨ is = e_n 1) → p < nxP b n p ∧ nxP b n p ≤ n → LG n p (Lti b n is B p) := by
    intro is his hl q B' hy
    unfold Lti at hy
    by_cases hm : bTi B = 12
    · rw [if_pos hm] at hy; cases hy
    · rw [if_neg hm] at hy
      obtain ⟨q0, a, e1, e2⟩ := Yb_i hy
      obtain ⟨q2, c, e3, e4⟩ := Yb_i e2
      cases e4
      obtain ⟨r1, r2, r3, -⟩ := Yone_i e1
      obtain ⟨s1, s2, s3, s4⟩ := Yone_i e3
      have l1 := nxP_lt (b := b) r2
      have l2 := nxP_lt (b := b) s2
      exact ⟨WB_ti wb (by omega) r3 s3 s4 his, by omega, by omega⟩
  by_cases w3 : Yw b n p = e_n ((3 : Nat) : Nat)
  · rw [if_pos w3]
    exact LG_sm (tie _ (Or.inr rfl) (hx 3 (by decide) w3))
  rw [if_neg w3]
  by_cases w2 : Yw b n p = e_n ((2 : Nat) : Nat)
  · rw [if_pos w2]
    exact LG_sm (tie _ (Or.inl rfl) (hx 2 (by decide) w2))
  rw [if_neg w2]
  by_cases w13 : Yw b n p = e_n ((13 : Nat) : Nat)
  · rw [if_pos w13]
    refine LG_sm (fun q B' hy => ?_)
    have hl := hx 13 (by decide) w13
    unfold Lru at hy
    by_cases hm : bO B = []
    · rw [if_neg (fun q => q hm)] at hy
      obtain ⟨q0, a, e1, e2⟩ := Yb_i hy
      cases e2
      obtain ⟨g1, g2, g3⟩ := YG_exp (b := b) (n := n) 6 _ _ _ hl.2 e1
      exact ⟨WB_O wb (by omega) (ok_rule e1), by omega, by omega⟩
    · rw [if_pos hm] at hy; cases hy
  rw [if_neg w13]
  intro q B' hy
  cases hy
def Ybrd (b : Nat → Int32) (n : Nat) : Nat → e_B → Nat → YL
  | 0, B, p => .inl (p, B)
  | f + 1, B, p => if tkK b n p = 0 then .inl (p, B) else Yb (Yline b n B p) (fun q B' => Ybrd b n f B' q)
theorem Ybrd_0 {b : Nat → Int32} {n p : Nat} {B : e_B} : Ybrd b n 0 B p = .inl (p, B) := rfl
theorem Ybrd_s {b : Nat → Int32} {n p f : Nat} {B : e_B} : Ybrd b n (f + 1) B p = if tkK b n p = 0 then .inl (p, B) else Yb (Yline b n B p) (fun q B' => Ybrd b n f B' q) := rfl
theorem Ybrd_wb {b : Nat → Int32} {n : Nat} (hn : n ≤ 700) : ∀ (f : Nat) (B : e_B) (p q : Nat) (B' : e_B), p ≤ n → WB B → Ybrd b n f B p = .inl (q, B') → WB B' ∧ q ≤ n := by
  intro f
  induction f with
  | zero =>
    intro B p q B' hp wb h
    rw [Ybrd_0] at h
    cases h
    exact ⟨wb, hp⟩
  | succ f ih =>
    intro B p q B' hp wb h
    rw [Ybrd_s] at h
    by_cases k0 : tkK b n p = 0
    · rw [if_pos k0] at h
      cases h
      exact ⟨wb, hp⟩
    · rw [if_neg k0] at h
      obtain ⟨q0, B0, e1, e2⟩ := Yb_i h
      obtain ⟨w1, w2, w3⟩ := LG_line hn hp wb q0 B0 e1
      exact ih B0 q0 q B' w3 w1 e2
/-- the loop over lines -/
theorem c60l {d b0 : Nat} {x2 : Int32} {z : e_Z} {b : Nat → Int32} {n : Nat} (hn : n ≤ 700) (hb0 : B2 b0) : ∀ (f i : Nat) (J : Nat → Nat → Int32) (p : Nat) (B : e_B), i + f = 701 → p ≤ n → WB B → TS J b n p → BrC J (bd z.2.1.2.1) B →
    ∃ J' r, e_L (d + 54) 60 34 [.ref 44, .ref 2, .int x2, .ref b0, .int (e_n (i : Nat))] [] (mk J z) = some (.inl (some (.int r)), mk J' z) ∧ BFr z J J' ∧ LOo z J' b n (Ybrd b n f B p) ∧ r = J' 44 2 := by
  intro f
  induction f with
  | zero =>
    intro i J p B hi hp wb hT hB
    have hi' : i = 701 := by omega
    rw [C60_34 (d := d + 42) hb0, hi', if_neg nlt701]
    exact ⟨J, _, rfl, fun _ _ _ _ => rfl, ⟨hT, hB⟩, rfl⟩
  | succ f ih =>
    intro i J p B hi hp wb hT hB
    rw [C60_34 (d := d + 42) hb0, if_pos (lt701 (by omega) (by omega)), if_pos (TS_0 hT), Ybrd_s]
    have k7 : (J 45 7 = 0) ↔ tkK b n p = 0 := by rw [(TS_k hT).1]; exact ck_0
    by_cases k0 : tkK b n p = 0
    · rw [if_pos (k7.mpr k0), if_pos k0]
      exact ⟨J, _, rfl, fun _ _ _ _ => rfl, ⟨hT, hB⟩, rfl⟩
    · rw [if_neg (fun q => k0 (k7.mp q)), if_neg k0]
      obtain ⟨J1, a1, a2, a3⟩ := c62h (d := d) hn hp wb hT hB
      have a1' : e_E (d + 42 + 12) 62 [.ref 44] (mk J z) = some (.inl none, mk J1 z) := a1
      rw [a1', e_rV_n, C60_63 (d := d + 42) hb0, e_n_succ]
      cases hy : Yline b n B p with
      | inr e =>
        obtain ⟨g, q⟩ := e
        rw [hy, LOo_er] at a3
        rw [C60_34 (d := d + 42) hb0, Yb_r]
        by_cases h7 : i + 1 = 701
        · rw [h7, if_neg nlt701]
          exact ⟨J1, _, rfl, a2, a3, rfl⟩
        · rw [if_pos (lt701 (by omega) h7), if_neg (CF_ne a3)]
          exact ⟨J1, _, rfl, a2, a3, rfl⟩
      | inl r =>
        obtain ⟨q, B1⟩ := r
        obtain ⟨w1, w2, w3⟩ := LG_line hn hp wb q B1 hy
        rw [hy, LOo_in] at a3
        obtain ⟨J2, r, b1, b2, b3, b4⟩ := ih (i + 1) J1 q B1 (by omega) w3 w1 a3.1 a3.2
        exact ⟨J2, r, b1, BFr_tr a2 b2, b3, b4⟩
end S99zzf
