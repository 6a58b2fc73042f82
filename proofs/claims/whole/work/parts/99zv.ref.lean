/-! the reference reads a rule: small steps -/
section S99zv
abbrev ZR : Type := (Nat × List Int32 × List Int32 × List Bool) ⊕ (Nat × Nat)
/-- the reference stands at the token at p -/
def TR (z : e_Z) (J : Nat → Nat → Int32) (b : Nat → Int32) (n p : Nat) : Prop := p ≤ n ∧ J 489 23 = e_n (n : Nat) ∧ (∀ k, k < n → J 500 k = b k) ∧ J 489 24 = e_n (tkE b n p : Nat) ∧ J 489 25 = e_n (tkK b n p : Nat) ∧ J 489 26 = e_n (p : Nat) ∧ J 489 27 = e_n (Yln b n p : Nat) ∧ (tkK b n p = 2 → J 489 28 = Ynm b n p) ∧ (p < n → J 489 29 = b p) ∧ (tkK b n p = 1 → z.1 489 30 = pk b p (tkE b n p - p)) ∧ J 489 21 = e_n (-1)
theorem TR_fr {z : e_Z} {J J' : Nat → Nat → Int32} {b : Nat → Int32} {n p : Nat} (h : TR z J b n p) (h5 : J' 500 = J 500) (h9 : ∀ k, 21 ≤ k → k ≤ 29 → J' 489 k = J 489 k) : TR z J' b n p := by
  obtain ⟨a0, a1, a2, a3, a4, a5, a6, a7, a8, a9⟩ := h
  unfold TR
  rw [h5, h9 21 (by decide) (by decide), h9 23 (by decide) (by decide), h9 24 (by decide) (by decide), h9 25 (by decide) (by decide), h9 26 (by decide) (by decide), h9 27 (by decide) (by decide), h9 28 (by decide) (by decide), h9 29 (by decide) (by decide)]
  exact ⟨a0, a1, a2, a3, a4, a5, a6, a7, a8, a9⟩
theorem goesH {d n p : Nat} {b : Nat → Int32} {J : Nat → Nat → Int32} {z : e_Z} (hn : n ≤ 700) (h : TR z J b n p) : ∃ J' z', e_E (d + 2) 187 [.ref 489] (mk J z) = some (.inl none, mk J' z') ∧ TR z' J' b n (nxP b n p) ∧ TF J J' ∧ LF z z' := by
  obtain ⟨a0, a1, a2, a3, -, -, -, -, -, -, a10⟩ := h
  obtain ⟨J', z', e1, e2, e3, e4, e5, e6, e7, e8, e9, e10⟩ := c187h (d := d) (z := z) hn (tkE_n (b := b) a0).2 a1 a3 a2
  refine ⟨J', z', e1, ⟨(nxP_le (b := b) a0).2, by rw [e2.2 23 (by omega)]; exact a1, fun k hk => by rw [e2.1 500 (by decide)]; exact a2 k hk, e4, e5, e6, e7, e8, e9, e10, by rw [e2.2 21 (by omega)]; exact a10⟩, e2, e3⟩
theorem yln_le {b : Nat → Int32} {n p : Nat} (h : p ≤ n) : Yln b n p ≤ n := by
  have := (tkE_n (b := b) h).2
  unfold Yln
  omega
theorem wkH {d n p : Nat} {b : Nat → Int32} {J : Nat → Nat → Int32} {z : e_Z} (hn : n ≤ 700) (h : TR z J b n p) : e_E (d + 3) 190 [.ref 489] (mk J z) = some (.inl (some (.int (Yw b n p))), mk J z) := by
  obtain ⟨a0, a1, a2, a3, a4, a5, a6, a7, a8, a9⟩ := h
  have hk := tkK_n b n p
  have hl := yln_le (b := b) a0
  rw [c190h (d := d) (kd := tkK b n p) (len := Yln b n p) (by omega) (by omega) a4 a6]
  unfold Yw Yln
  by_cases k1 : tkK b n p = 1
  · rw [if_pos k1, if_pos k1, a9.1 k1]
  · rw [if_neg k1, if_neg k1]
theorem TR_s {z : e_Z} {J : Nat → Nat → Int32} {b : Nat → Int32} {n p : Nat} {c : Int32} (h : TR z J b n p) : (J 489 25 = e_n 3 ∧ J 489 29 = c) ↔ Ysg b n p c := by
  obtain ⟨a0, a1, a2, a3, a4, a5, a6, a7, a8, a9⟩ := h
  have hk := tkK_n b n p
  have e : (e_n (tkK b n p : Nat) = e_n 3) = (tkK b n p = 3) := by rw [show (e_n 3) = e_n ((3 : Nat) : Nat) from rfl, e_n_inj (by omega) (by omega) (by omega) (by omega)]; apply propext; omega
  rw [a4, e]
  constructor
  · intro q
    exact ⟨q.1, by rw [← a8 (tk_3 q.1).1]; exact q.2⟩
  · intro q
    exact ⟨q.1, by rw [a8 (tk_3 q.1).1]; exact q.2⟩
theorem TR_2 {z : e_Z} {J : Nat → Nat → Int32} {b : Nat → Int32} {n p : Nat} (h : TR z J b n p) : (J 489 25 = e_n 2) ↔ tkK b n p = 2 := by
  have hk := tkK_n b n p
  rw [h.2.2.2.2.1, show (e_n 2) = e_n ((2 : Nat) : Nat) from rfl, e_n_inj (by omega) (by omega) (by omega) (by omega)]
  omega
theorem TR_1 {z : e_Z} {J : Nat → Nat → Int32} {b : Nat → Int32} {n p : Nat} (h : TR z J b n p) : (J 489 25 = e_n 1) ↔ tkK b n p = 1 := by
  have hk := tkK_n b n p
  rw [h.2.2.2.2.1, show (e_n 1) = e_n ((1 : Nat) : Nat) from rfl, e_n_inj (by omega) (by omega) (by omega) (by omega)]
  omega
theorem TR_0 {z : e_Z} {J : Nat → Nat → Int32} {b : Nat → Int32} {n p : Nat} (h : TR z J b n p) : (J 489 25 = 0) ↔ tkK b n p = 0 := by
  have hk := tkK_n b n p
  rw [h.2.2.2.2.1, show (0 : Int32) = e_n ((0 : Nat) : Nat) from rfl, e_n_inj (by omega) (by omega) (by omega) (by omega)]
  omega
theorem TR_4 {z : e_Z} {J : Nat → Nat → Int32} {b : Nat → Int32} {n p : Nat} (hn : n ≤ 700) (h : TR z J b n p) : (e_n 4 < J 489 27) ↔ 4 < Yln b n p := by
  have hl := yln_le (b := b) h.1
  rw [h.2.2.2.2.2.2.1, show (e_n 4) = e_n ((4 : Nat) : Nat) from rfl, e_n_ltN (by omega) (by omega)]
/-- a fault of the reference -/
def RE (J : Nat → Nat → Int32) (f q : Nat) : Prop := J 489 20 = e_n (f : Nat) ∧ J 489 21 = e_n (q : Nat) ∧ 1 ≤ f ∧ f ≤ 5
theorem RE_ne {J : Nat → Nat → Int32} {f q : Nat} (h : RE J f q) : ¬ J 489 20 = 0 := by
  obtain ⟨h1, -, h2, h3⟩ := h
  rw [h1, show (0 : Int32) = e_n ((0 : Nat) : Nat) from rfl, e_n_inj (by omega) (by omega) (by omega) (by omega)]
  omega
theorem RE_fr {J J' : Nat → Nat → Int32} {f q : Nat} (h : RE J f q) (h0 : J' 489 20 = J 489 20) (h1 : J' 489 21 = J 489 21) : RE J' f q := ⟨h0.trans h.1, h1.trans h.2.1, h.2.2⟩
theorem wrongH {d f n p : Nat} {b : Nat → Int32} {J : Nat → Nat → Int32} {z : e_Z} {x : Int32} (hx : x = e_n (f : Nat)) (h0 : J 489 20 = 0) (h : TR z J b n p) (hf : 1 ≤ f) (hf5 : f ≤ 5) : ∃ J', e_E (d + 1) 191 [.ref 489, .int x] (mk J z) = some (.inl none, mk J' z) ∧ RE J' f p ∧ (∀ r, r ≠ 489 → J' r = J r) ∧ ∀ k, k ≠ 20 → k ≠ 21 → J' 489 k = J 489 k := by
  subst hx
  refine ⟨e_u (e_u J 489 20 (e_n (f : Nat))) 489 21 (J 489 26), by rw [c191, if_pos h0], ⟨?_, ?_, hf, hf5⟩, fun r hr => ?_, fun k h1 h2 => ?_⟩
  · rw [e_u_ne (by decide), e_u_same]
  · rw [e_u_same]; exact h.2.2.2.2.2.1
  · rw [e_u_na hr, e_u_na hr]
  · rw [e_u_ne h2, e_u_ne h1]
-- the rows of codes and of what waits
def RO (J : Nat → Nat → Int32) (o W : List Int32) : Prop := J 489 38 = e_n (o.length : Nat) ∧ (∀ j, j < o.length → J 512 j = o.getD j 0) ∧ J 489 39 = e_n (W.length : Nat) ∧ ∀ j, j < W.length → J 513 (W.length - 1 - j) = W.getD j 0
def RD (J : Nat → Nat → Int32) (T : List Bool) : Prop := J 489 40 = e_n (T.length : Nat) ∧ T.length ≤ 6 ∧ ∀ j, j < T.length → J 514 (T.length - j) = if T.getD j false = true then e_n 1 else e_n 0
theorem RO_fr {J J' : Nat → Nat → Int32} {o W : List Int32} (h : RO J o W) (h1 : J' 512 = J 512) (h2 : J' 513 = J 513) (h3 : J' 489 38 = J 489 38) (h4 : J' 489 39 = J 489 39) : RO J' o W := by
  unfold RO
  rw [h1, h2, h3, h4]
  exact h
theorem RD_fr {J J' : Nat → Nat → Int32} {T : List Bool} (h : RD J T) (h1 : J' 514 = J 514) (h2 : J' 489 40 = J 489 40) : RD J' T := by
  unfold RD
  rw [h1, h2]
  exact h
theorem RO_o {J : Nat → Nat → Int32} {o W : List Int32} {v : Int32} (h : RO J o W) (hl : o.length < 1400) : RO (e_u (e_u J 512 (J 489 38).toNatClampNeg v) 489 38 (J 489 38 + e_n 1)) (o ++ [v]) W ∧ InR (J 489 38) 1400 := by
  obtain ⟨h1, h2, h3, h4⟩ := h
  refine ⟨⟨?_, ?_, ?_, ?_⟩, by rw [h1]; exact InR_n (by omega) (by omega) (by omega)⟩
  · rw [e_u_same, h1, e_n_succ]; simp
  · intro j hj
    rw [e_u_na (by decide), h1, e_n_nat' (by omega)]
    by_cases hjl : j = o.length
    · subst hjl
      rw [e_u_same]; simp
    · have hj2 : j < o.length := by simp at hj; omega
      rw [e_u_ne hjl, h2 j hj2]
      simp [List.getElem?_append_left hj2]
  · rw [e_u_ne (by decide), e_u_na (by decide)]; exact h3
  · intro j hj
    rw [e_u_na (by decide), e_u_na (by decide)]; exact h4 j hj
theorem RO_w {J : Nat → Nat → Int32} {o W : List Int32} {v : Int32} (h : RO J o W) (hl : W.length < 950) : RO (e_u (e_u J 513 (J 489 39).toNatClampNeg v) 489 39 (J 489 39 + e_n 1)) o (v :: W) ∧ InR (J 489 39) 950 := by
  obtain ⟨h1, h2, h3, h4⟩ := h
  refine ⟨⟨?_, ?_, ?_, ?_⟩, by rw [h3]; exact InR_n (by omega) (by omega) (by omega)⟩
  · rw [e_u_ne (by decide), e_u_na (by decide)]; exact h1
  · intro j hj
    rw [e_u_na (by decide), e_u_na (by decide)]; exact h2 j hj
  · rw [e_u_same, h3, e_n_succ]; simp
  · intro j hj
    rw [e_u_na (by decide), h3, e_n_nat' (by omega)]
    cases j with
    | zero => simp [e_u_same]
    | succ j =>
      have hj2 : j < W.length := by simpa using hj
      have := h4 j hj2
      simp
      rw [show W.length - (j + 1) = W.length - 1 - j by omega, e_u_ne (by omega)]
      simpa using this
def zst (x : Int32) : Int32 := v200 (fun _ _ => 0) x
def Zdr (l : Int32) : List Int32 → List Int32 → List Int32 × List Int32
  | o, [] => (o, [])
  | o, c :: W => if c < e_n 14 then (if zst c < l then (o, c :: W) else Zdr l (o ++ [c]) W) else (o, c :: W)
theorem Zdr_n {l : Int32} {o : List Int32} : Zdr l o [] = (o, []) := rfl
theorem Zdr_c {l c : Int32} {o W : List Int32} : Zdr l o (c :: W) = if c < e_n 14 then (if zst c < l then (o, c :: W) else Zdr l (o ++ [c]) W) else (o, c :: W) := rfl
theorem Zdr_len {l : Int32} : ∀ (W o : List Int32), (Zdr l o W).1.length + (Zdr l o W).2.length = o.length + W.length ∧ (Zdr l o W).2.length ≤ W.length
  | [], o => ⟨rfl, Nat.le_refl _⟩
  | c :: W, o => by
    rw [Zdr_c]
    split
    · split
      · exact ⟨rfl, Nat.le_refl _⟩
      · obtain ⟨h1, h2⟩ := Zdr_len (l := l) W (o ++ [c])
        simp at h1 h2 ⊢
        omega
    · exact ⟨rfl, Nat.le_refl _⟩
/-- only codes and what waits are touched -/
def OFr (J J' : Nat → Nat → Int32) : Prop := (∀ r, r ≠ 489 → r ≠ 512 → r ≠ 513 → J' r = J r) ∧ ∀ k, k ≠ 38 → k ≠ 39 → J' 489 k = J 489 k
theorem dropsH {d : Nat} {l : Int32} {z : e_Z} : ∀ (W o : List Int32) (J : Nat → Nat → Int32), RO J o W → o.length + W.length ≤ 1400 → W.length ≤ 900 → ∃ J', e_E (d + 2) 201 [.ref 489, .int l] (mk J z) = some (.inl none, mk J' z) ∧ RO J' (Zdr l o W).1 (Zdr l o W).2 ∧ OFr J J' := by
  suffices hx : ∀ (W o : List Int32) (J : Nat → Nat → Int32), RO J o W → o.length + W.length ≤ 1400 → W.length ≤ 900 → ∃ J', e_L (d + 1) 201 0 [.ref 489, .int l] [] (mk J z) = some (.inl none, mk J' z) ∧ RO J' (Zdr l o W).1 (Zdr l o W).2 ∧ OFr J J' by
    intro W o J h1 h2 h3
    obtain ⟨J', e1, e2⟩ := hx W o J h1 h2 h3
    exact ⟨J', e_E_ret (d := d + 1) e1, e2⟩
  intro W
  induction W with
  | nil =>
    intro o J h h2 h3
    obtain ⟨r1, r2, r3, r4⟩ := h
    have h0 : ¬ 0 < J 489 39 := by rw [r3]; decide
    refine ⟨J, ?_, ⟨r1, r2, r3, r4⟩, fun _ _ _ _ => rfl, fun _ _ _ => rfl⟩
    rw [C201_0 (fun q => absurd q h0) (fun q => absurd q h0), if_neg h0]
  | cons c W ih =>
    intro o J h h2 h3
    obtain ⟨r1, r2, r3, r4⟩ := h
    simp at h2 h3
    have h0 : 0 < J 489 39 := by rw [r3, show (0 : Int32) = e_n ((0 : Nat) : Nat) from rfl, e_n_ltN (by omega) (by simp; omega)]; simp
    have hm : J 489 39 - e_n 1 = e_n (W.length : Nat) := by rw [r3, e_n_sub]; congr 1; simp
    have hmn : (J 489 39 - e_n 1).toNatClampNeg = W.length := by rw [hm]; exact e_n_nat' (by omega)
    have hc : J 513 W.length = c := by
      have := r4 0 (by simp)
      simpa using this
    have hon : (J 489 38).toNatClampNeg = o.length := by rw [r1]; exact e_n_nat' (by omega)
    have hst : v200 J c = zst c := rfl
    rw [C201_0 (fun _ => by rw [hm]; exact InR_n (by omega) (by omega) (by omega)) (fun _ _ _ => by rw [r1]; exact InR_n (by omega) (by omega) (by omega)), if_pos h0, hmn, hc, hst, Zdr_c]
    by_cases c1 : c < e_n 14
    · rw [if_pos c1, if_pos c1]
      by_cases c2 : zst c < l
      · rw [if_pos c2, if_pos c2]
        exact ⟨J, rfl, ⟨r1, r2, r3, r4⟩, fun _ _ _ _ => rfl, fun _ _ _ => rfl⟩
      · rw [if_neg c2, if_neg c2]
        have hR : RO (e_u (e_u (e_u J 489 39 (J 489 39 - e_n 1)) 512 (J 489 38).toNatClampNeg c) 489 38 (J 489 38 + e_n 1)) (o ++ [c]) W := by
          have hR0 : RO (e_u J 489 39 (J 489 39 - e_n 1)) o W := by
            refine ⟨?_, ?_, ?_, ?_⟩
            · rw [e_u_ne (by decide)]; exact r1
            · intro j hj; rw [e_u_na (by decide)]; exact r2 j hj
            · rw [e_u_same]; exact hm
            · intro j hj
              rw [e_u_na (by decide)]
              have := r4 (j + 1) (by simp; omega)
              simp at this
              rw [show W.length - 1 - j = W.length - (j + 1) by omega]
              simpa using this
          have := (RO_o (v := c) hR0 (by omega)).1
          rw [e_u_ne (show (38 : Nat) ≠ 39 by decide)] at this
          exact this
        obtain ⟨J', e1, e2, e3, e4⟩ := ih (o ++ [c]) _ hR (by simp; omega) (by omega)
        refine ⟨J', e1, e2, fun r q1 q2 q3 => ?_, fun k q1 q2 => ?_⟩
        · rw [e3 r q1 q2 q3, e_u_na q1, e_u_na q2, e_u_na q1]
        · rw [e4 k q1 q2, e_u_ne q1, e_u_na (by decide), e_u_ne q2]
    · rw [if_neg c1, if_neg c1]
      exact ⟨J, rfl, ⟨r1, r2, r3, r4⟩, fun _ _ _ _ => rfl, fun _ _ _ => rfl⟩
/-- how many signs stand open -/
def Zco : List Int32 → Nat
  | [] => 0
  | c :: W => if c < e_n 14 then Zco W else Zco W + 1
theorem Zdr_co {l : Int32} : ∀ (W o : List Int32), Zco (Zdr l o W).2 = Zco W
  | [], o => rfl
  | c :: W, o => by
    rw [Zdr_c]
    have e : Zco (c :: W) = if c < e_n 14 then Zco W else Zco W + 1 := rfl
    by_cases c1 : c < e_n 14
    · rw [if_pos c1]
      split
      · rfl
      · rw [Zdr_co W (o ++ [c]), e, if_pos c1]
    · rw [if_neg c1]
theorem zst_0 (c : Int32) : ¬ zst c < e_n 0 := by
  unfold zst v200
  split
  · decide
  · split
    · decide
    · split
      · decide
      · split
        · decide
        · split
          · decide
          · split
            · decide
            · split <;> decide
theorem Zdr_0 : ∀ (W o : List Int32), 1 ≤ Zco W → ∃ c W', (Zdr (e_n 0) o W).2 = c :: W' ∧ ¬ c < e_n 14 ∧ Zco W' + 1 = Zco W
  | [], o, h => absurd h (by decide)
  | c :: W, o, h => by
    have e : Zco (c :: W) = if c < e_n 14 then Zco W else Zco W + 1 := rfl
    rw [Zdr_c]
    by_cases c1 : c < e_n 14
    · rw [if_pos c1, if_neg (zst_0 c)]
      rw [e, if_pos c1] at h
      rw [e, if_pos c1]
      exact Zdr_0 W (o ++ [c]) h
    · rw [if_neg c1]
      exact ⟨c, W, rfl, c1, by rw [e, if_neg c1]⟩
theorem openH {d : Nat} {z : e_Z} {J : Nat → Nat → Int32} {o W : List Int32} (h : RO J o W) (hl : W.length ≤ 900) : e_E (d + 2) 206 [.ref 489] (mk J z) = some (.inl (some (.int (if 1 ≤ Zco W then e_n 1 else e_n 0))), mk J z) := by
  obtain ⟨r1, r2, r3, r4⟩ := h
  have loop : ∀ (V : List Int32) (m : Nat), m + V.length = W.length → (∀ j, j < V.length → W.getD (m + j) 0 = V.getD j 0) → e_L (d + 1) 206 7 [.ref 489, .int (e_n ((V.length : Nat) - 1))] [] (mk J z) = some (.inl (some (.int (if 1 ≤ Zco V then e_n 1 else e_n 0))), mk J z) := by
    intro V
    induction V with
    | nil =>
      intro m hm hV
      have h0 : e_n (((([] : List Int32).length : Nat) : Int) - 1) < 0 := by decide
      rw [C206_7 (fun q => absurd h0 q), if_pos h0]
      rfl
    | cons c V ih =>
      intro m hm hV
      simp at hm
      have e1 : e_n (((c :: V).length : Nat) - 1) = e_n (V.length : Nat) := by congr 1; simp
      have h0 : ¬ e_n (V.length : Nat) < 0 := by rw [show (0 : Int32) = e_n ((0 : Nat) : Nat) from rfl, e_n_ltN (by omega) (by omega)]; omega
      have hc : J 513 V.length = c := by
        have a1 := r4 m (by omega)
        have a2 := hV 0 (by simp)
        rw [show W.length - 1 - m = V.length by omega] at a1
        rw [Nat.add_zero] at a2
        rw [a1, a2]
        rfl
      rw [e1, C206_7 (fun _ => InR_n (by omega) (by omega) (by omega)), if_neg h0, e_n_nat' (by omega), hc]
      have e2 : Zco (c :: V) = if c < e_n 14 then Zco V else Zco V + 1 := rfl
      by_cases c1 : c < e_n 14
      · rw [if_pos c1, e2, if_pos c1, e_n_add]
        exact ih (m + 1) (by omega) (fun j hj => by
          have := hV (j + 1) (by simp; omega)
          rw [show m + 1 + j = m + (j + 1) by omega, this]
          rfl)
      · rw [if_neg c1, e2, if_neg c1, if_pos (by omega)]
  refine e_E_ret (d := d + 1) ?_
  show e_L (d + 1) 206 0 [.ref 489, .null] [] (mk J z) = _
  rw [C206_0, r3, e_n_sub]
  exact loop W 0 (by omega) (fun j hj => by rw [Nat.zero_add])
end S99zv
