/-! the reference reads a rule: its machine -/
section S99zw
def Zsh (v : Bool) (T : List Bool) : List Bool := v :: T.tail
def Yfc (b : Nat → Int32) (n p : Nat) : Nat := if tkK b n p = 2 ∨ tkK b n p = 1 ∨ Ysg b n p (e_n 40) then 2 else 1
def Zr (b : Nat → Int32) (n : Nat) : Nat → Option (Bool × Nat) → Nat → List Int32 → List Int32 → List Bool → ZR
  | 0, _, _, _, _, _ => .inr (0, 0)
  | f + 1, some m, p, o, W, T =>
    if m.1 = true ∧ Yw b n p = e_n ((16 : Nat) : Nat) then (if m.2 = 6 then .inr (2, p) else Zr b n f (some (m.1, m.2 + 1)) (nxP b n p) o (e_n 3 :: W) T)
    else if Ysg b n p (e_n 40) then (if T.length < 6 then Zr b n f (some (true, 0)) (nxP b n p) o (e_n 14 :: W) (false :: T) else .inr (Yfc b n (nxP b n p), nxP b n p))
    else if tkK b n p = 2 then (if 4 < Yln b n p then .inr (2, p) else Zr b n f none (nxP b n p) (o ++ [e_n 1, Ynm b n p]) W T)
    else if tkK b n p = 1 then (if Yw b n p < 0 ∨ e_n 7 < Yw b n p then .inr (3, p) else Zr b n f none (nxP b n p) (o ++ [e_n 2, Yw b n p]) W T)
    else .inr (1, p)
  | f + 1, none, p, o, W, T =>
    if Yw b n p = e_n ((14 : Nat) : Nat) then Zr b n f (some (true, 0)) (nxP b n p) (Zdr (e_n 2) o W).1 (e_n 4 :: (Zdr (e_n 2) o W).2) (Zsh false T)
    else if Yw b n p = e_n ((15 : Nat) : Nat) then Zr b n f (some (true, 0)) (nxP b n p) (Zdr (e_n 1) o W).1 (e_n 5 :: (Zdr (e_n 1) o W).2) (Zsh false T)
    else if Ysg b n p (e_n 60) ∧ T.headD true = false then Zr b n f (some (false, 0)) (nxP b n p) (Zdr (e_n 4) o W).1 (e_n 6 :: (Zdr (e_n 4) o W).2) (Zsh true T)
    else if Ysg b n p (e_n 61) ∧ T.headD true = false then Zr b n f (some (false, 0)) (nxP b n p) (Zdr (e_n 4) o W).1 (e_n 7 :: (Zdr (e_n 4) o W).2) (Zsh true T)
    else if Ysg b n p (e_n 43) then Zr b n f (some (false, 0)) (nxP b n p) (Zdr (e_n 5) o W).1 (e_n 8 :: (Zdr (e_n 5) o W).2) T
    else if Ysg b n p (e_n 45) then Zr b n f (some (false, 0)) (nxP b n p) (Zdr (e_n 5) o W).1 (e_n 9 :: (Zdr (e_n 5) o W).2) T
    else if Ysg b n p (e_n 42) then Zr b n f (some (false, 0)) (nxP b n p) (Zdr (e_n 6) o W).1 (e_n 10 :: (Zdr (e_n 6) o W).2) T
    else if Ysg b n p (e_n 47) then Zr b n f (some (false, 0)) (nxP b n p) (Zdr (e_n 6) o W).1 (e_n 11 :: (Zdr (e_n 6) o W).2) T
    else if Ysg b n p (e_n 41) ∧ 1 ≤ Zco W then Zr b n f none (nxP b n p) (Zdr (e_n 0) o W).1 (Zdr (e_n 0) o W).2.tail T.tail
    else .inl (p, o, W, T)
theorem Zr_op {b : Nat → Int32} {n f p k : Nat} {mn : Bool} {o W : List Int32} {T : List Bool} : Zr b n (f + 1) (some (mn, k)) p o W T =
    if mn = true ∧ Yw b n p = e_n ((16 : Nat) : Nat) then (if k = 6 then .inr (2, p) else Zr b n f (some (mn, k + 1)) (nxP b n p) o (e_n 3 :: W) T)
    else if Ysg b n p (e_n 40) then (if T.length < 6 then Zr b n f (some (true, 0)) (nxP b n p) o (e_n 14 :: W) (false :: T) else .inr (Yfc b n (nxP b n p), nxP b n p))
    else if tkK b n p = 2 then (if 4 < Yln b n p then .inr (2, p) else Zr b n f none (nxP b n p) (o ++ [e_n 1, Ynm b n p]) W T)
    else if tkK b n p = 1 then (if Yw b n p < 0 ∨ e_n 7 < Yw b n p then .inr (3, p) else Zr b n f none (nxP b n p) (o ++ [e_n 2, Yw b n p]) W T)
    else .inr (1, p) := rfl
theorem Zr_af {b : Nat → Int32} {n f p : Nat} {o W : List Int32} {T : List Bool} : Zr b n (f + 1) none p o W T =
    if Yw b n p = e_n ((14 : Nat) : Nat) then Zr b n f (some (true, 0)) (nxP b n p) (Zdr (e_n 2) o W).1 (e_n 4 :: (Zdr (e_n 2) o W).2) (Zsh false T)
    else if Yw b n p = e_n ((15 : Nat) : Nat) then Zr b n f (some (true, 0)) (nxP b n p) (Zdr (e_n 1) o W).1 (e_n 5 :: (Zdr (e_n 1) o W).2) (Zsh false T)
    else if Ysg b n p (e_n 60) ∧ T.headD true = false then Zr b n f (some (false, 0)) (nxP b n p) (Zdr (e_n 4) o W).1 (e_n 6 :: (Zdr (e_n 4) o W).2) (Zsh true T)
    else if Ysg b n p (e_n 61) ∧ T.headD true = false then Zr b n f (some (false, 0)) (nxP b n p) (Zdr (e_n 4) o W).1 (e_n 7 :: (Zdr (e_n 4) o W).2) (Zsh true T)
    else if Ysg b n p (e_n 43) then Zr b n f (some (false, 0)) (nxP b n p) (Zdr (e_n 5) o W).1 (e_n 8 :: (Zdr (e_n 5) o W).2) T
    else if Ysg b n p (e_n 45) then Zr b n f (some (false, 0)) (nxP b n p) (Zdr (e_n 5) o W).1 (e_n 9 :: (Zdr (e_n 5) o W).2) T
    else if Ysg b n p (e_n 42) then Zr b n f (some (false, 0)) (nxP b n p) (Zdr (e_n 6) o W).1 (e_n 10 :: (Zdr (e_n 6) o W).2) T
    else if Ysg b n p (e_n 47) then Zr b n f (some (false, 0)) (nxP b n p) (Zdr (e_n 6) o W).1 (e_n 11 :: (Zdr (e_n 6) o W).2) T
    else if Ysg b n p (e_n 41) ∧ 1 ≤ Zco W then Zr b n f none (nxP b n p) (Zdr (e_n 0) o W).1 (Zdr (e_n 0) o W).2.tail T.tail
    else .inl (p, o, W, T) := rfl
/-- the reference's state within a rule -/
def RS (z : e_Z) (J : Nat → Nat → Int32) (b : Nat → Int32) (n p : Nat) (o W : List Int32) (T : List Bool) : Prop :=
  TR z J b n p ∧ J 489 20 = e_n 0 ∧ RO J o W ∧ RD J T ∧ T.length = Zco W + 1 ∧ o.length + W.length + 4 ≤ 2 * p ∧ W.length ≤ p
/-- behind a fault: the rows of codes stay in bounds -/
def RX (J : Nat → Nat → Int32) (f q : Nat) : Prop := RE J f q ∧ ∃ o W, RO J o W ∧ o.length + W.length ≤ 1398 ∧ W.length ≤ 900
def RFr (J J' : Nat → Nat → Int32) : Prop := (∀ r, r ≠ 489 → r ≠ 512 → r ≠ 513 → r ≠ 514 → J' r = J r) ∧ ∀ k, (k < 20 ∨ k = 22 ∨ k = 23 ∨ (30 ≤ k ∧ k < 38) ∨ 40 < k) → J' 489 k = J 489 k
theorem RFr_rf {J : Nat → Nat → Int32} : RFr J J := ⟨fun _ _ _ _ _ => rfl, fun _ _ => rfl⟩
theorem RFr_tr {a b c : Nat → Nat → Int32} (h : RFr a b) (g : RFr b c) : RFr a c := ⟨fun r h1 h2 h3 h4 => (g.1 r h1 h2 h3 h4).trans (h.1 r h1 h2 h3 h4), fun k hk => (g.2 k hk).trans (h.2 k hk)⟩
theorem RFr_tf {a b : Nat → Nat → Int32} (h : TF a b) : RFr a b := ⟨fun r h1 _ _ _ => h.1 r h1, fun k hk => h.2 k (by omega)⟩
theorem RFr_of {a b : Nat → Nat → Int32} (h : OFr a b) : RFr a b := ⟨fun r h1 h2 h3 _ => h.1 r h1 h2 h3, fun k hk => h.2 k (by omega) (by omega)⟩
theorem RFr_wr {a b : Nat → Nat → Int32} (h1 : ∀ r, r ≠ 489 → b r = a r) (h2 : ∀ k, k ≠ 20 → k ≠ 21 → b 489 k = a 489 k) : RFr a b := ⟨fun r q1 _ _ _ => h1 r q1, fun k hk => h2 k (by omega) (by omega)⟩
theorem RS_g {z : e_Z} {J : Nat → Nat → Int32} {b : Nat → Int32} {n p : Nat} {o W : List Int32} {T : List Bool} (h : RS z J b n p o W T) : J 489 20 = 0 := h.2.1
/-- a fault where the state stands -/
theorem RX_w {J J' : Nat → Nat → Int32} {f q : Nat} {o W : List Int32} (h1 : RE J' f q) (h2 : RO J o W) (h3 : ∀ r, r ≠ 489 → J' r = J r) (h4 : ∀ k, k ≠ 20 → k ≠ 21 → J' 489 k = J 489 k) (h5 : o.length + W.length ≤ 1398) (h6 : W.length ≤ 900) : RX J' f q := ⟨h1, o, W, RO_fr h2 (h3 512 (by decide)) (h3 513 (by decide)) (h4 38 (by decide) (by decide)) (h4 39 (by decide) (by decide)), h5, h6⟩
/-- the next token, with the rest as it is -/
theorem rs_goes {d n p : Nat} {b : Nat → Int32} {J J0 : Nat → Nat → Int32} {z : e_Z} {o W : List Int32} {T : List Bool} (hn : n ≤ 700) (h : TR z J b n p) (h0 : J 489 20 = e_n 0) (hO : RO J o W) (hD : RD J T) (hT : T.length = Zco W + 1) (hp : p < n) (hb : o.length + W.length + 4 ≤ 2 * p + 2) (hw : W.length ≤ p + 1) (hf : RFr J0 J) : ∃ J' z', e_E (d + 2) 187 [.ref 489] (mk J z) = some (.inl none, mk J' z') ∧ RS z' J' b n (nxP b n p) o W T ∧ RFr J0 J' ∧ LF z z' := by
  obtain ⟨J', z', e1, e2, e3, e4⟩ := goesH (d := d) hn h
  have hlt := nxP_lt (b := b) hp
  exact ⟨J', z', e1, ⟨e2, by rw [e3.2 20 (by omega)]; exact h0, RO_fr hO (e3.1 512 (by decide)) (e3.1 513 (by decide)) (e3.2 38 (by omega)) (e3.2 39 (by omega)), RD_fr hD (e3.1 514 (by decide)) (e3.2 40 (by omega)), hT, by omega, by omega⟩, RFr_tr hf (RFr_tf e3), e4⟩
theorem RD_p {J : Nat → Nat → Int32} {T : List Bool} {v : Int32} (h : RD J T) (hl : T.length < 6) (hv : v = e_n 0) : RD (e_u (e_u J 489 40 (J 489 40 + e_n 1)) 514 (J 489 40 + e_n 1).toNatClampNeg v) (false :: T) ∧ InR (J 489 40 + e_n 1) 9 := by
  obtain ⟨h1, h2, h3⟩ := h
  have e : J 489 40 + e_n 1 = e_n ((T.length + 1 : Nat) : Nat) := by rw [h1, e_n_succ]
  refine ⟨⟨?_, by simp; omega, ?_⟩, by rw [e]; exact InR_n (by omega) (by omega) (by omega)⟩
  · rw [e_u_na (by decide), e_u_same, e]; simp
  · intro j hj
    rw [e, e_n_nat' (by omega)]
    cases j with
    | zero => simp [e_u_same, hv]
    | succ j =>
      have hj2 : j < T.length := by simpa using hj
      have := h3 j hj2
      simp
      rw [e_u_ne (by omega), e_u_na (by decide), this]
      simp
theorem RD_s {J : Nat → Nat → Int32} {t v : Bool} {T : List Bool} {x : Int32} (h : RD J (t :: T)) (hv : x = if v = true then e_n 1 else e_n 0) : RD (e_u J 514 (J 489 40).toNatClampNeg x) (v :: T) ∧ InR (J 489 40) 9 := by
  obtain ⟨h1, h2, h3⟩ := h
  simp at h1 h2
  refine ⟨⟨?_, by simp; omega, ?_⟩, by rw [h1]; exact InR_n (by omega) (by omega) (by omega)⟩
  · rw [e_u_na (by decide), h1]; simp
  · intro j hj
    rw [h1, show ((T.length : Int) + 1) = ((T.length + 1 : Nat) : Int) by omega, e_n_nat' (by omega)]
    cases j with
    | zero => simp [e_u_same, hv]
    | succ j =>
      have hj2 : j < T.length := by simpa using hj
      have := h3 (j + 1) (by simp; omega)
      simp at this ⊢
      rw [e_u_ne (by omega), this]
/-- what a part does -/
theorem partH {d n p : Nat} {b : Nat → Int32} {J : Nat → Nat → Int32} {z : e_Z} {o W : List Int32} {T : List Bool} (hn : n ≤ 700) (h : RS z J b n p o W T) (hp : p < n) :
    ∃ J' z', e_E (d + 4) 203 [.ref 489] (mk J z) = some (.inl none, mk J' z') ∧ RFr J J' ∧ LF z z' ∧ ((∃ a, (if tkK b n p = 2 then (if 4 < Yln b n p then (.inr (2, p) : YR) else .inl (nxP b n p, [e_n 1, Ynm b n p])) else if tkK b n p = 1 then (if Yw b n p < 0 ∨ e_n 7 < Yw b n p then .inr (3, p) else .inl (nxP b n p, [e_n 2, Yw b n p])) else .inr (1, p)) = .inl (nxP b n p, a) ∧ RS z' J' b n (nxP b n p) (o ++ a) W T) ∨ (∃ g q, (if tkK b n p = 2 then (if 4 < Yln b n p then (.inr (2, p) : YR) else .inl (nxP b n p, [e_n 1, Ynm b n p])) else if tkK b n p = 1 then (if Yw b n p < 0 ∨ e_n 7 < Yw b n p then .inr (3, p) else .inl (nxP b n p, [e_n 2, Yw b n p])) else .inr (1, p)) = .inr (g, q) ∧ RX J' g q)) := by
  suffices hx : ∃ J' z', e_L (d + 3) 203 0 [.ref 489, .null] [] (mk J z) = some (.inl none, mk J' z') ∧ RFr J J' ∧ LF z z' ∧ ((∃ a, (if tkK b n p = 2 then (if 4 < Yln b n p then (.inr (2, p) : YR) else .inl (nxP b n p, [e_n 1, Ynm b n p])) else if tkK b n p = 1 then (if Yw b n p < 0 ∨ e_n 7 < Yw b n p then .inr (3, p) else .inl (nxP b n p, [e_n 2, Yw b n p])) else .inr (1, p)) = .inl (nxP b n p, a) ∧ RS z' J' b n (nxP b n p) (o ++ a) W T) ∨ (∃ g q, (if tkK b n p = 2 then (if 4 < Yln b n p then (.inr (2, p) : YR) else .inl (nxP b n p, [e_n 1, Ynm b n p])) else if tkK b n p = 1 then (if Yw b n p < 0 ∨ e_n 7 < Yw b n p then .inr (3, p) else .inl (nxP b n p, [e_n 2, Yw b n p])) else .inr (1, p)) = .inr (g, q) ∧ RX J' g q)) by
    obtain ⟨J', z', e1, e2⟩ := hx
    exact ⟨J', z', e_E_ret (d := d + 3) e1, e2⟩
  obtain ⟨hR, h20, hO, hD, hT, hb, hw⟩ := h
  replace h20 : J 489 20 = 0 := h20
  have h38 : J 489 38 = e_n (o.length : Nat) := hO.1
  have g1 : InR (J 489 38) 1400 := by rw [h38]; exact InR_n (by omega) (by omega) (by omega)
  have g2 : InR (J 489 38 + e_n 1) 1400 := by rw [h38, e_n_succ]; exact InR_n (by omega) (by omega) (by omega)
  -- two codes put
  have two : ∀ (K : Nat → Nat → Int32) (v1 v2 : Int32), RO K o W → RO (e_u (e_u (e_u (e_u K 512 (K 489 38).toNatClampNeg v1) 489 38 (K 489 38 + e_n 1)) 512 (K 489 38 + e_n 1).toNatClampNeg v2) 489 38 (K 489 38 + e_n 1 + e_n 1)) (o ++ [v1, v2]) W := by
    intro K v1 v2 hK
    have a1 := (RO_o (v := v1) hK (by omega)).1
    have a2 := (RO_o (v := v2) a1 (by simp; omega)).1
    rw [e_u_same, List.append_assoc] at a2
    exact a2
  have fr4 : ∀ (K : Nat → Nat → Int32) (v1 v2 x y : Int32) (i j : Nat), OFr K (e_u (e_u (e_u (e_u K 512 i v1) 489 38 x) 512 j v2) 489 38 y) := by
    intro K v1 v2 x y i j
    refine ⟨fun r q1 q2 q3 => ?_, fun k q1 q2 => ?_⟩
    · rw [e_u_na q1, e_u_na q2, e_u_na q1, e_u_na q2]
    · rw [e_u_ne q1, e_u_na (by decide), e_u_ne q1, e_u_na (by decide)]
  -- a good one
  have good : ∀ v1 v2, ∃ J' z', e_E (d + 3) 187 [.ref 489] (mk (e_u (e_u (e_u (e_u J 512 (J 489 38).toNatClampNeg v1) 489 38 (J 489 38 + e_n 1)) 512 (J 489 38 + e_n 1).toNatClampNeg v2) 489 38 (J 489 38 + e_n 1 + e_n 1)) z) = some (.inl none, mk J' z') ∧ RS z' J' b n (nxP b n p) (o ++ [v1, v2]) W T ∧ RFr J J' ∧ LF z z' := by
    intro v1 v2
    have f := fr4 J v1 v2 (J 489 38 + e_n 1) (J 489 38 + e_n 1 + e_n 1) (J 489 38).toNatClampNeg (J 489 38 + e_n 1).toNatClampNeg
    exact rs_goes (d := d + 1) hn (TR_fr hR (f.1 500 (by decide) (by decide) (by decide)) (fun k k1 k2 => f.2 k (by omega) (by omega))) ((f.2 20 (by decide) (by decide)).trans h20) (two J v1 v2 hO) (RD_fr hD (f.1 514 (by decide) (by decide) (by decide)) (f.2 40 (by decide) (by decide))) hT hp (by simp; omega) (by omega) (RFr_of f)
  -- a bad one
  have bad : ∀ (K : Nat → Nat → Int32) (v1 v2 : Int32) (f : Nat), RE K f p → (∀ r, r ≠ 489 → K r = J r) → (∀ k, k ≠ 20 → k ≠ 21 → K 489 k = J 489 k) → RX (e_u (e_u (e_u (e_u K 512 (K 489 38).toNatClampNeg v1) 489 38 (K 489 38 + e_n 1)) 512 (K 489 38 + e_n 1).toNatClampNeg v2) 489 38 (K 489 38 + e_n 1 + e_n 1)) f p ∧ RFr J (e_u (e_u (e_u (e_u K 512 (K 489 38).toNatClampNeg v1) 489 38 (K 489 38 + e_n 1)) 512 (K 489 38 + e_n 1).toNatClampNeg v2) 489 38 (K 489 38 + e_n 1 + e_n 1)) := by
    intro K v1 v2 f hE k1 k2
    have f4 := fr4 K v1 v2 (K 489 38 + e_n 1) (K 489 38 + e_n 1 + e_n 1) (K 489 38).toNatClampNeg (K 489 38 + e_n 1).toNatClampNeg
    refine ⟨⟨RE_fr hE (f4.2 20 (by decide) (by decide)) (f4.2 21 (by decide) (by decide)), o ++ [v1, v2], W, two K v1 v2 (RO_fr hO (k1 512 (by decide)) (k1 513 (by decide)) (k2 38 (by decide) (by decide)) (k2 39 (by decide) (by decide))), by simp; omega, by omega⟩, RFr_tr (RFr_wr k1 k2) (RFr_of f4)⟩
  rw [C203_0 (fun _ _ _ => g1) (fun _ _ _ => g2), if_pos h20]
  by_cases k2 : tkK b n p = 2
  · rw [if_pos ((TR_2 hR).mpr k2)]
    by_cases h4 : 4 < Yln b n p
    · obtain ⟨K, e1, e2, e3, e4⟩ := wrongH (d := d + 2) (f := 2) (x := e_n 2) rfl h20 hR (by decide) (by decide)
      obtain ⟨q1, q2⟩ := bad K (e_n 1) (K 489 28) 2 e2 e3 e4
      refine ⟨_, z, ?_, q2, LF_rf z, Or.inr ⟨2, p, by rw [if_pos k2, if_pos h4], q1⟩⟩
      rw [if_pos ((TR_4 hn hR).mpr h4), e1, e_rV_n, C203_29 (by rw [e4 38 (by decide) (by decide)]; exact g1) (by rw [e4 38 (by decide) (by decide)]; exact g2), if_neg (RE_ne e2)]
    · obtain ⟨J', z', e1, e2, e3, e4⟩ := good (e_n 1) (J 489 28)
      have hv : J 489 28 = Ynm b n p := hR.2.2.2.2.2.2.2.1 k2
      refine ⟨J', z', ?_, e3, e4, Or.inl ⟨[e_n 1, Ynm b n p], by rw [if_pos k2, if_neg h4], by rw [← hv]; exact e2⟩⟩
      rw [if_neg (fun q => h4 ((TR_4 hn hR).mp q)), if_pos h20, e1, e_rV_n, C203_102]
  · rw [if_neg (fun q => k2 ((TR_2 hR).mp q))]
    by_cases k1 : tkK b n p = 1
    · rw [if_pos ((TR_1 hR).mpr k1), wkH (d := d) hn hR, e_rI_i, C203_57 (fun _ _ => g1) (fun _ _ => g2)]
      obtain ⟨K, e1, e2, e3, e4⟩ := wrongH (d := d + 2) (f := 3) (x := e_n 3) rfl h20 hR (by decide) (by decide)
      obtain ⟨q1, q2⟩ := bad K (e_n 2) (Yw b n p) 3 e2 e3 e4
      have g1' : InR (K 489 38) 1400 := by rw [e4 38 (by decide) (by decide)]; exact g1
      have g2' : InR (K 489 38 + e_n 1) 1400 := by rw [e4 38 (by decide) (by decide)]; exact g2
      by_cases c0 : Yw b n p < 0
      · refine ⟨_, z, ?_, q2, LF_rf z, Or.inr ⟨3, p, by rw [if_neg k2, if_pos k1, if_pos (Or.inl c0)], q1⟩⟩
        rw [if_pos c0, e1, e_rV_n, C203_73 g1' g2', if_neg (RE_ne e2)]
      · rw [if_neg c0]
        by_cases c7 : e_n 7 < Yw b n p
        · refine ⟨_, z, ?_, q2, LF_rf z, Or.inr ⟨3, p, by rw [if_neg k2, if_pos k1, if_pos (Or.inr c7)], q1⟩⟩
          rw [if_pos c7, e1, e_rV_n, C203_73 g1' g2', if_neg (RE_ne e2)]
        · obtain ⟨J', z', e1, e2, e3, e4⟩ := good (e_n 2) (Yw b n p)
          refine ⟨J', z', ?_, e3, e4, Or.inl ⟨[e_n 2, Yw b n p], by rw [if_neg k2, if_pos k1, if_neg (fun q => q.elim c0 c7)], e2⟩⟩
          rw [if_neg c7, if_pos h20, e1, e_rV_n, C203_102]
    · rw [if_neg (fun q => k1 ((TR_1 hR).mp q))]
      obtain ⟨K, e1, e2, e3, e4⟩ := wrongH (d := d + 2) (f := 1) (x := e_n 1) rfl h20 hR (by decide) (by decide)
      refine ⟨K, z, ?_, RFr_wr e3 e4, LF_rf z, Or.inr ⟨1, p, by rw [if_neg k2, if_neg k1], RX_w e2 hO e3 e4 (by omega) (by omega)⟩⟩
      rw [e1, e_rV_n, C203_91, if_neg (RE_ne e2)]
end S99zw
