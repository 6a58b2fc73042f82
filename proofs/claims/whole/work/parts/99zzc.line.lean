/-! what the lines of a text say -/
section S99zzc
def anyB (f : Nat → Bool) : Nat → Bool
  | 0 => false
  | k + 1 => f k || anyB f k
theorem anyB_i {f : Nat → Bool} : ∀ n, (anyB f n = true) ↔ ∃ k, k < n ∧ f k = true
  | 0 => ⟨fun h => (by cases h), fun ⟨k, hk, _⟩ => absurd hk (Nat.not_lt_zero k)⟩
  | n + 1 => by
    have e : anyB f (n + 1) = (f n || anyB f n) := rfl
    rw [e, Bool.or_eq_true, anyB_i n]
    constructor
    · rintro (h | ⟨k, hk, h⟩)
      · exact ⟨n, by omega, h⟩
      · exact ⟨k, by omega, h⟩
    · rintro ⟨k, hk, h⟩
      by_cases hkn : k = n
      · rw [hkn] at h; exact Or.inl h
      · exact Or.inr ⟨k, by omega, h⟩
def Yv (b : Nat → Int32) (n p : Nat) : Nat := (Ynm b n p).toNatClampNeg
theorem Yv_e {b : Nat → Int32} {n p : Nat} (h : tkK b n p = 2) (h4 : ¬ 4 < Yln b n p) : Ynm b n p = e_n (Yv b n p : Nat) ∧ Yv b n p ≤ 9999 := by
  obtain ⟨v, v1, v2⟩ := Ynm_n h h4
  unfold Yv
  rw [v2, e_n_nat' (by omega)]
  exact ⟨rfl, v1⟩
abbrev YN : Type := (Nat × Nat) ⊕ (Nat × Nat)
abbrev YL : Type := (Nat × e_B) ⊕ (Nat × Nat)
def Ynum (b : Nat → Int32) (n most p : Nat) : YN := if tkK b n p = 2 then (if 4 < Yln b n p ∨ most < Yv b n p then .inr (2, p) else .inl (nxP b n p, Yv b n p)) else .inr (1, p)
def Yone (b : Nat → Int32) (n told : Nat) (bar : Nat → Bool) (p : Nat) : YN := if tkK b n p = 2 then (if 4 < Yln b n p then .inr (2, p) else if told ≤ Yv b n p then .inr (3, p) else if bar (Yv b n p) = true then .inr (4, p) else .inl (nxP b n p, Yv b n p)) else .inr (1, p)
def nob : Nat → Bool := fun _ => false
def hwy (B : e_B) (a v : Nat) : Bool := anyB (fun w => decide (bR B 2 w = e_n (a : Nat) ∧ bR B 3 w = e_n (v : Nat)) || decide (bR B 2 w = e_n (v : Nat) ∧ bR B 3 w = e_n (a : Nat))) (bWy B)
def tdB (B : e_B) (m v : Nat) : Bool := anyB (fun k => decide (bR B 7 k = e_n (m : Nat) ∧ bR B 8 k = e_n (v : Nat))) (bTi B)
def adMa (B : e_B) (v : Nat) : e_B := ((bMa B + 1, bPl B, bWy B, bPe B, bKi B, bTi B), e_u (bR B) 10 (31 + bMa B) (e_n (v : Nat)), bO B)
def adPl (B : e_B) (x : Int32) : e_B := ((bMa B, bPl B + 1, bWy B, bPe B, bKi B, bTi B), e_u (bR B) 1 (bPl B) x, bO B)
def adWy (B : e_B) (a c g : Nat) : e_B := ((bMa B, bPl B, bWy B + 1, bPe B, bKi B, bTi B), e_u (e_u (e_u (bR B) 2 (bWy B) (e_n (a : Nat))) 3 (bWy B) (e_n (c : Nat))) 4 (bWy B) (e_n (g : Nat)), bO B)
def adPe (B : e_B) (g a : Nat) : e_B := ((bMa B, bPl B, bWy B, bPe B + 1, bKi B, bTi B), e_u (e_u (e_u (bR B) 5 (bPe B) (e_n (g : Nat))) 10 (22 + bPe B) (e_n (a : Nat))) 6 (bPe B) (e_n 0), bO B)
def adKi (B : e_B) (a c : Nat) : e_B := ((bMa B, bPl B, bWy B, bPe B, bKi B + 1, bTi B), e_u (e_u (bR B) 6 a (bR B 6 a ||| e_shl (e_n 1) (e_n (c : Nat)))) 6 c (bR B 6 c ||| e_shl (e_n 1) (e_n (a : Nat))), bO B)
def adTi (B : e_B) (m c : Nat) (is : Int32) : e_B := ((bMa B, bPl B, bWy B, bPe B, bKi B, bTi B + 1), e_u (e_u (e_u (bR B) 7 (bTi B) (e_n (m : Nat))) 8 (bTi B) (e_n (c : Nat))) 9 (bTi B) is, bO B)
def stO (B : e_B) (a : List Int32) : e_B := (B.1, bR B, a)
def Lma (b : Nat → Int32) (n : Nat) (B : e_B) (p : Nat) : YL := if bMa B = 3 then .inr (2, p) else Yb (Ynum b n 999 (nxP b n p)) (fun q v => .inl (q, adMa B v))
def Lpl (b : Nat → Int32) (n : Nat) (B : e_B) (p : Nat) : YL := if bPl B = 8 then .inr (2, p) else Yb (Ynum b n 9 (nxP b n p)) (fun q v => .inl (q, adPl B (e_n (v : Nat))))
def Lse (b : Nat → Int32) (n : Nat) (B : e_B) (p : Nat) : YL := if bPl B = 8 then .inr (2, p) else .inl (nxP b n p, adPl B (e_n (-1)))
def Lwy (b : Nat → Int32) (n : Nat) (B : e_B) (p : Nat) : YL := if bWy B = 12 then .inr (2, p) else Yb (Yone b n (bPl B) nob (nxP b n p)) (fun q a => Yb (Yone b n (bPl B) (fun v => decide (v = a) || hwy B a v) q) (fun q2 c => Yb (Ynum b n 60 q2) (fun q3 g => .inl (q3, adWy B a c g))))
def Lpe (b : Nat → Int32) (n : Nat) (B : e_B) (p : Nat) : YL := if bPe B = 9 then .inr (2, p) else Yb (Ynum b n 99 (nxP b n p)) (fun q g => Yb (Yone b n (bPl B) nob q) (fun q2 a => .inl (q2, adPe B g a)))
def Lki (b : Nat → Int32) (n : Nat) (B : e_B) (p : Nat) : YL := if bKi B = 9 then .inr (2, p) else Yb (Yone b n (bPe B) nob (nxP b n p)) (fun q a => Yb (Yone b n (bPe B) (fun v => decide (v = a) || bt (bR B 6 a) v) q) (fun q2 c => .inl (q2, adKi B a c)))
def Lti (b : Nat → Int32) (n : Nat) (is : Int32) (B : e_B) (p : Nat) : YL := if bTi B = 12 then .inr (2, p) else Yb (Yone b n (bMa B) nob (nxP b n p)) (fun q m => Yb (Yone b n (bPe B) (tdB B m) q) (fun q2 c => .inl (q2, adTi B m c is)))
def Lru (b : Nat → Int32) (n : Nat) (B : e_B) (p : Nat) : YL := if ¬ bO B = [] then .inr (5, p) else Yb (Yexp b n 6 (nxP b n p)) (fun q a => .inl (q, stO B a))
def Lsm (b : Nat → Int32) (n : Nat) (r : YL) : YL := Yb r (fun q B => if Ysg b n q (e_n 59) then .inl (nxP b n q, B) else .inr (1, q))
def Yline (b : Nat → Int32) (n : Nat) (B : e_B) (p : Nat) : YL :=
  if Yw b n p = e_n ((8 : Nat) : Nat) then Lsm b n (Lma b n B p) else if Yw b n p = e_n ((9 : Nat) : Nat) then Lsm b n (Lpl b n B p) else if Yw b n p = e_n ((10 : Nat) : Nat) then Lsm b n (Lse b n B p)
  else if Yw b n p = e_n ((11 : Nat) : Nat) then Lsm b n (Lwy b n B p) else if Yw b n p = e_n ((12 : Nat) : Nat) then Lsm b n (Lpe b n B p) else if Yw b n p = e_n ((4 : Nat) : Nat) then Lsm b n (Lki b n B p)
  else if Yw b n p = e_n ((3 : Nat) : Nat) then Lsm b n (Lti b n (e_n 1) B p) else if Yw b n p = e_n ((2 : Nat) : Nat) then Lsm b n (Lti b n (e_n 0) B p) else if Yw b n p = e_n ((13 : Nat) : Nat) then Lsm b n (Lru b n B p) else .inr (1, p)
theorem Ynum_i {b : Nat → Int32} {n most p q v : Nat} (h : Ynum b n most p = .inl (q, v)) : q = nxP b n p ∧ p < n ∧ v ≤ most := by
  unfold Ynum at h
  by_cases k2 : tkK b n p = 2
  · rw [if_pos k2] at h
    by_cases h4 : 4 < Yln b n p ∨ most < Yv b n p
    · rw [if_pos h4] at h; cases h
    · rw [if_neg h4] at h
      cases h
      exact ⟨rfl, (tk_2 k2).1, by omega⟩
  · rw [if_neg k2] at h; cases h
theorem Yone_i {b : Nat → Int32} {n told p q v : Nat} {bar : Nat → Bool} (h : Yone b n told bar p = .inl (q, v)) : q = nxP b n p ∧ p < n ∧ v < told ∧ bar v = false := by
  unfold Yone at h
  by_cases k2 : tkK b n p = 2
  · rw [if_pos k2] at h
    by_cases h4 : 4 < Yln b n p
    · rw [if_pos h4] at h; cases h
    · rw [if_neg h4] at h
      by_cases h5 : told ≤ Yv b n p
      · rw [if_pos h5] at h; cases h
      · rw [if_neg h5] at h
        by_cases h6 : bar (Yv b n p) = true
        · rw [if_pos h6] at h; cases h
        · rw [if_neg h6] at h
          cases h
          exact ⟨rfl, (tk_2 k2).1, by omega, by simpa using h6⟩
  · rw [if_neg k2] at h; cases h
theorem WB_ma {B : e_B} {v : Nat} (wb : WB B) (h : bMa B < 3) (hv : v ≤ 999) : WB (adMa B v) := by
  obtain ⟨w1, w2, w3, w4, w5, w6, w7, w8, w9, w10, w11, w12, w13, w14, w15, w16, w17⟩ := wb
  have hR : ∀ r, r ≠ 10 → bR (adMa B v) r = bR B r := fun r hr => e_u_na hr
  have h10 : ∀ k, k ≠ 31 + bMa B → bR (adMa B v) 10 k = bR B 10 k := fun k hk => by
    show e_u (bR B) 10 (31 + bMa B) (e_n (v : Nat)) 10 k = _
    rw [e_u_ne hk]
  refine ⟨h, w2, w3, w4, w5, w6, ?_, ?_, ?_, ?_, ?_, w12, w13, ?_, ?_, ?_, ?_⟩
  · rw [hR 1 (by decide)]; exact w7
  · rw [hR 2 (by decide), hR 3 (by decide), hR 4 (by decide)]; exact w8
  · intro p hp
    have hp' : p < bPe B := hp
    rw [hR 5 (by decide), hR 6 (by decide), h10 _ (by omega)]
    exact w9 p hp
  · intro m hm
    have hm' : m < bMa B + 1 := hm
    by_cases e : m = bMa B
    · rw [e]
      refine ⟨v, hv, ?_⟩
      show e_u (bR B) 10 (31 + bMa B) (e_n (v : Nat)) 10 (31 + bMa B) = _
      rw [e_u_same]
    · rw [h10 _ (by omega)]
      exact w10 m (by omega)
  · rw [hR 7 (by decide), hR 8 (by decide), hR 9 (by decide)]
    intro k hk
    obtain ⟨⟨m, m1, m2⟩, q⟩ := w11 k hk
    exact ⟨⟨m, show m < bMa B + 1 by omega, m2⟩, q⟩
  · rw [hR 2 (by decide), hR 3 (by decide)]; exact w14
  · rw [hR 2 (by decide), hR 3 (by decide)]; exact w15
  · rw [hR 6 (by decide)]; exact w16
  · rw [hR 7 (by decide), hR 8 (by decide)]; exact w17
theorem WB_pl {B : e_B} {x : Int32} (wb : WB B) (h : bPl B < 8) (hx : x = e_n (-1) ∨ ∃ v : Nat, v ≤ 9 ∧ x = e_n (v : Nat)) : WB (adPl B x) := by
  obtain ⟨w1, w2, w3, w4, w5, w6, w7, w8, w9, w10, w11, w12, w13, w14, w15, w16, w17⟩ := wb
  have hR : ∀ r, r ≠ 1 → bR (adPl B x) r = bR B r := fun r hr => e_u_na hr
  refine ⟨w1, h, w3, w4, w5, w6, ?_, ?_, ?_, ?_, ?_, w12, w13, ?_, ?_, ?_, ?_⟩
  · intro a ha
    have ha' : a < bPl B + 1 := ha
    by_cases e : a = bPl B
    · have e2 : bR (adPl B x) 1 (bPl B) = x := by
        show e_u (bR B) 1 (bPl B) x 1 (bPl B) = _
        rw [e_u_same]
      rw [e, e2]; exact hx
    · have e2 : bR (adPl B x) 1 a = bR B 1 a := by
        show e_u (bR B) 1 (bPl B) x 1 a = _
        rw [e_u_ne e]
      rw [e2]
      exact w7 a (by omega)
  · rw [hR 2 (by decide), hR 3 (by decide), hR 4 (by decide)]
    intro w hw
    obtain ⟨⟨a, a1, a2⟩, ⟨c, c1, c2⟩, q⟩ := w8 w hw
    exact ⟨⟨a, show a < bPl B + 1 by omega, a2⟩, ⟨c, show c < bPl B + 1 by omega, c2⟩, q⟩
  · rw [hR 5 (by decide), hR 6 (by decide), hR 10 (by decide)]
    intro p hp
    obtain ⟨q1, ⟨a, a1, a2⟩, q2⟩ := w9 p hp
    exact ⟨q1, ⟨a, show a < bPl B + 1 by omega, a2⟩, q2⟩
  · rw [hR 10 (by decide)]; exact w10
  · rw [hR 7 (by decide), hR 8 (by decide), hR 9 (by decide)]; exact w11
  · rw [hR 2 (by decide), hR 3 (by decide)]; exact w14
  · rw [hR 2 (by decide), hR 3 (by decide)]; exact w15
  · rw [hR 6 (by decide)]; exact w16
  · rw [hR 7 (by decide), hR 8 (by decide)]; exact w17
theorem hwy_f {B : e_B} {a v : Nat} (h : hwy B a v = false) : ∀ w, w < bWy B → ¬ (bR B 2 w = e_n (a : Nat) ∧ bR B 3 w = e_n (v : Nat)) ∧ ¬ (bR B 2 w = e_n (v : Nat) ∧ bR B 3 w = e_n (a : Nat)) := by
  intro w hw
  have : ¬ hwy B a v = true := by rw [h]; decide
  unfold hwy at this
  rw [anyB_i] at this
  refine ⟨fun q => this ⟨w, hw, ?_⟩, fun q => this ⟨w, hw, ?_⟩⟩
  · rw [decide_eq_true q, Bool.true_or]
  · rw [decide_eq_true q, Bool.or_true]
theorem WB_wy {B : e_B} {a c g : Nat} (wb : WB B) (h : bWy B < 12) (ha : a < bPl B) (hc : c < bPl B) (hac : ¬ c = a) (hw : hwy B a c = false) (hg : g ≤ 60) : WB (adWy B a c g) := by
  obtain ⟨w1, w2, w3, w4, w5, w6, w7, w8, w9, w10, w11, w12, w13, w14, w15, w16, w17⟩ := wb
  have hR : ∀ r, r ≠ 2 → r ≠ 3 → r ≠ 4 → bR (adWy B a c g) r = bR B r := fun r h2 h3 h4 => (e_u_na h4).trans ((e_u_na h3).trans (e_u_na h2))
  have n2 : bR (adWy B a c g) 2 (bWy B) = e_n (a : Nat) := by
    show e_u (e_u (e_u (bR B) 2 (bWy B) (e_n (a : Nat))) 3 (bWy B) (e_n (c : Nat))) 4 (bWy B) (e_n (g : Nat)) 2 (bWy B) = _
    rw [e_u_na (by decide), e_u_na (by decide), e_u_same]
  have n3 : bR (adWy B a c g) 3 (bWy B) = e_n (c : Nat) := by
    show e_u (e_u (e_u (bR B) 2 (bWy B) (e_n (a : Nat))) 3 (bWy B) (e_n (c : Nat))) 4 (bWy B) (e_n (g : Nat)) 3 (bWy B) = _
    rw [e_u_na (by decide), e_u_same]
  have n4 : bR (adWy B a c g) 4 (bWy B) = e_n (g : Nat) := by
    show e_u (e_u (e_u (bR B) 2 (bWy B) (e_n (a : Nat))) 3 (bWy B) (e_n (c : Nat))) 4 (bWy B) (e_n (g : Nat)) 4 (bWy B) = _
    rw [e_u_same]
  have o2 : ∀ w, w ≠ bWy B → bR (adWy B a c g) 2 w = bR B 2 w ∧ bR (adWy B a c g) 3 w = bR B 3 w ∧ bR (adWy B a c g) 4 w = bR B 4 w := by
    intro w hw
    show e_u (e_u (e_u (bR B) 2 (bWy B) (e_n (a : Nat))) 3 (bWy B) (e_n (c : Nat))) 4 (bWy B) (e_n (g : Nat)) 2 w = _ ∧ e_u (e_u (e_u (bR B) 2 (bWy B) (e_n (a : Nat))) 3 (bWy B) (e_n (c : Nat))) 4 (bWy B) (e_n (g : Nat)) 3 w = _ ∧ e_u (e_u (e_u (bR B) 2 (bWy B) (e_n (a : Nat))) 3 (bWy B) (e_n (c : Nat))) 4 (bWy B) (e_n (g : Nat)) 4 w = _
    refine ⟨?_, ?_, ?_⟩
    · rw [e_u_na (by decide), e_u_na (by decide), e_u_ne hw]
    · rw [e_u_na (by decide), e_u_ne hw, e_u_na (by decide)]
    · rw [e_u_ne hw, e_u_na (by decide), e_u_na (by decide)]
  have hpl := w2
  refine ⟨w1, w2, h, w4, w5, w6, ?_, ?_, ?_, ?_, ?_, w12, w13, ?_, ?_, ?_, ?_⟩
  · rw [hR 1 (by decide) (by decide) (by decide)]; exact w7
  · intro w hw'
    have hw2 : w < bWy B + 1 := hw'
    by_cases e : w = bWy B
    · rw [e, n2, n3, n4]
      exact ⟨⟨a, ha, rfl⟩, ⟨c, hc, rfl⟩, g, hg, rfl⟩
    · rw [(o2 w e).1, (o2 w e).2.1, (o2 w e).2.2]
      exact w8 w (by omega)
  · rw [hR 5 (by decide) (by decide) (by decide), hR 6 (by decide) (by decide) (by decide), hR 10 (by decide) (by decide) (by decide)]; exact w9
  · rw [hR 10 (by decide) (by decide) (by decide)]; exact w10
  · rw [hR 7 (by decide) (by decide) (by decide), hR 8 (by decide) (by decide) (by decide), hR 9 (by decide) (by decide) (by decide)]; exact w11
  · intro v hv w hwv
    have hv2 : v < bWy B + 1 := hv
    have hwne : w ≠ bWy B := by omega
    rw [(o2 w hwne).1, (o2 w hwne).2.1]
    by_cases e : v = bWy B
    · rw [e, n2, n3]
      obtain ⟨q1, q2⟩ := hwy_f hw w (by omega)
      exact ⟨fun q => q1 ⟨q.1.symm, q.2.symm⟩, fun q => q2 ⟨q.2.symm, q.1.symm⟩⟩
    · rw [(o2 v e).1, (o2 v e).2.1]
      exact w14 v (by omega) w hwv
  · intro w hw'
    have hw2 : w < bWy B + 1 := hw'
    by_cases e : w = bWy B
    · rw [e, n2, n3, e_n_inj (by omega) (by omega) (by omega) (by omega)]
      omega
    · rw [(o2 w e).1, (o2 w e).2.1]
      exact w15 w (by omega)
  · rw [hR 6 (by decide) (by decide) (by decide)]; exact w16
  · rw [hR 7 (by decide) (by decide) (by decide), hR 8 (by decide) (by decide) (by decide)]; exact w17
theorem WB_pe {B : e_B} {g a : Nat} (wb : WB B) (h : bPe B < 9) (hg : g ≤ 99) (ha : a < bPl B) : WB (adPe B g a) := by
  obtain ⟨w1, w2, w3, w4, w5, w6, w7, w8, w9, w10, w11, w12, w13, w14, w15, w16, w17⟩ := wb
  have hR : ∀ r, r ≠ 5 → r ≠ 10 → r ≠ 6 → bR (adPe B g a) r = bR B r := fun r h2 h3 h4 => (e_u_na h4).trans ((e_u_na h3).trans (e_u_na h2))
  have n5 : bR (adPe B g a) 5 (bPe B) = e_n (g : Nat) := by
    show e_u (e_u (e_u (bR B) 5 (bPe B) (e_n (g : Nat))) 10 (22 + bPe B) (e_n (a : Nat))) 6 (bPe B) (e_n 0) 5 (bPe B) = _
    rw [e_u_na (by decide), e_u_na (by decide), e_u_same]
  have n10 : bR (adPe B g a) 10 (22 + bPe B) = e_n (a : Nat) := by
    show e_u (e_u (e_u (bR B) 5 (bPe B) (e_n (g : Nat))) 10 (22 + bPe B) (e_n (a : Nat))) 6 (bPe B) (e_n 0) 10 (22 + bPe B) = _
    rw [e_u_na (by decide), e_u_same]
  have n6 : bR (adPe B g a) 6 (bPe B) = e_n 0 := by
    show e_u (e_u (e_u (bR B) 5 (bPe B) (e_n (g : Nat))) 10 (22 + bPe B) (e_n (a : Nat))) 6 (bPe B) (e_n 0) 6 (bPe B) = _
    rw [e_u_same]
  have o5 : ∀ p, p ≠ bPe B → bR (adPe B g a) 5 p = bR B 5 p := fun p hp => by
    show e_u (e_u (e_u (bR B) 5 (bPe B) (e_n (g : Nat))) 10 (22 + bPe B) (e_n (a : Nat))) 6 (bPe B) (e_n 0) 5 p = _
    rw [e_u_na (by decide), e_u_na (by decide), e_u_ne hp]
  have o10 : ∀ p, p ≠ 22 + bPe B → bR (adPe B g a) 10 p = bR B 10 p := fun p hp => by
    show e_u (e_u (e_u (bR B) 5 (bPe B) (e_n (g : Nat))) 10 (22 + bPe B) (e_n (a : Nat))) 6 (bPe B) (e_n 0) 10 p = _
    rw [e_u_na (by decide), e_u_ne hp, e_u_na (by decide)]
  have o6 : ∀ p, p ≠ bPe B → bR (adPe B g a) 6 p = bR B 6 p := fun p hp => by
    show e_u (e_u (e_u (bR B) 5 (bPe B) (e_n (g : Nat))) 10 (22 + bPe B) (e_n (a : Nat))) 6 (bPe B) (e_n 0) 6 p = _
    rw [e_u_ne hp, e_u_na (by decide), e_u_na (by decide)]
  refine ⟨w1, w2, w3, h, w5, w6, ?_, ?_, ?_, ?_, ?_, w12, w13, ?_, ?_, ?_, ?_⟩
  · rw [hR 1 (by decide) (by decide) (by decide)]; exact w7
  · rw [hR 2 (by decide) (by decide) (by decide), hR 3 (by decide) (by decide) (by decide), hR 4 (by decide) (by decide) (by decide)]; exact w8
  · intro p hp
    have hp' : p < bPe B + 1 := hp
    by_cases e : p = bPe B
    · rw [e, n5, n10, n6]
      exact ⟨⟨g, hg, rfl⟩, ⟨a, ha, rfl⟩, fun i _ => bt_0 i⟩
    · rw [o5 p e, o10 _ (by omega), o6 p e]
      obtain ⟨q1, q2, q3⟩ := w9 p (by omega)
      exact ⟨q1, q2, fun i hi => q3 i (by have : bPe B + 1 ≤ i := hi; omega)⟩
  · intro m hm
    rw [o10 _ (by omega)]
    exact w10 m hm
  · rw [hR 7 (by decide) (by decide) (by decide), hR 8 (by decide) (by decide) (by decide), hR 9 (by decide) (by decide) (by decide)]
    intro k hk
    obtain ⟨q1, ⟨p, p1, p2⟩, q2⟩ := w11 k hk
    exact ⟨q1, ⟨p, show p < bPe B + 1 by omega, p2⟩, q2⟩
  · rw [hR 2 (by decide) (by decide) (by decide), hR 3 (by decide) (by decide) (by decide)]; exact w14
  · rw [hR 2 (by decide) (by decide) (by decide), hR 3 (by decide) (by decide) (by decide)]; exact w15
  · intro p q hp hq
    have hp' : p < bPe B + 1 := hp
    have hq' : q < bPe B + 1 := hq
    by_cases e : p = bPe B
    · by_cases e2 : q = bPe B
      · rw [e, e2]
      · rw [e, n6, o6 q e2, bt_0, (w9 q (by omega)).2.2 _ (Nat.le_refl _)]
    · by_cases e2 : q = bPe B
      · rw [e2, n6, o6 p e, bt_0, (w9 p (by omega)).2.2 _ (Nat.le_refl _)]
      · rw [o6 p e, o6 q e2]
        exact w16 p q (by omega) (by omega)
  · rw [hR 7 (by decide) (by decide) (by decide), hR 8 (by decide) (by decide) (by decide)]; exact w17
theorem WB_ki {B : e_B} {a c : Nat} (wb : WB B) (h : bKi B < 9) (ha : a < bPe B) (hc : c < bPe B) (hac : ¬ c = a) : WB (adKi B a c) := by
  obtain ⟨w1, w2, w3, w4, w5, w6, w7, w8, w9, w10, w11, w12, w13, w14, w15, w16, w17⟩ := wb
  have hR : ∀ r, r ≠ 6 → bR (adKi B a c) r = bR B r := fun r h2 => (e_u_na h2).trans (e_u_na h2)
  have hbt : ∀ p i, bt (bR (adKi B a c) 6 p) i = (bt (bR B 6 p) i || (decide (p = a) && decide (i = c)) || (decide (p = c) && decide (i = a))) := by
    intro p i
    show bt (e_u (e_u (bR B) 6 a (bR B 6 a ||| e_shl (e_n 1) (e_n (c : Nat)))) 6 c (bR B 6 c ||| e_shl (e_n 1) (e_n (a : Nat))) 6 p) i = _
    by_cases e : p = c
    · rw [e, e_u_same, bt_or, bt_bit (show a < 32 by omega)]
      simp [hac]
    · rw [e_u_ne e]
      by_cases e2 : p = a
      · rw [e2, e_u_same, bt_or, bt_bit (show c < 32 by omega)]
        have : ¬ a = c := fun q => hac q.symm
        simp [this]
      · rw [e_u_ne e2]
        simp [e, e2]
  refine ⟨w1, w2, w3, w4, h, w6, ?_, ?_, ?_, ?_, ?_, w12, w13, ?_, ?_, ?_, ?_⟩
  · rw [hR 1 (by decide)]; exact w7
  · rw [hR 2 (by decide), hR 3 (by decide), hR 4 (by decide)]; exact w8
  · intro p hp
    rw [hR 5 (by decide), hR 10 (by decide)]
    obtain ⟨q1, q2, q3⟩ := w9 p hp
    refine ⟨q1, q2, fun i hi => ?_⟩
    have hi' : bPe B ≤ i := hi
    rw [hbt, q3 i hi]
    have e1 : ¬ i = c := by omega
    have e2 : ¬ i = a := by omega
    simp [e1, e2]
  · rw [hR 10 (by decide)]; exact w10
  · rw [hR 7 (by decide), hR 8 (by decide), hR 9 (by decide)]; exact w11
  · rw [hR 2 (by decide), hR 3 (by decide)]; exact w14
  · rw [hR 2 (by decide), hR 3 (by decide)]; exact w15
  · intro p q hp hq
    rw [hbt, hbt, w16 p q hp hq, Bool.or_assoc, Bool.or_assoc, Bool.and_comm (decide (p = a)), Bool.and_comm (decide (p = c)), Bool.or_comm (decide (q = c) && decide (p = a))]
  · rw [hR 7 (by decide), hR 8 (by decide)]; exact w17
theorem tdB_f {B : e_B} {m v : Nat} (h : tdB B m v = false) : ∀ k, k < bTi B → ¬ (bR B 7 k = e_n (m : Nat) ∧ bR B 8 k = e_n (v : Nat)) := by
  intro k hk q
  have : ¬ tdB B m v = true := by rw [h]; decide
  unfold tdB at this
  rw [anyB_i] at this
  exact this ⟨k, hk, decide_eq_true q⟩
theorem WB_ti {B : e_B} {m c : Nat} {is : Int32} (wb : WB B) (h : bTi B < 12) (hm : m < bMa B) (hc : c < bPe B) (htd : tdB B m c = false) (his : is = e_n 0 ∨ is = e_n 1) : WB (adTi B m c is) := by
  obtain ⟨w1, w2, w3, w4, w5, w6, w7, w8, w9, w10, w11, w12, w13, w14, w15, w16, w17⟩ := wb
  have hR : ∀ r, r ≠ 7 → r ≠ 8 → r ≠ 9 → bR (adTi B m c is) r = bR B r := fun r h2 h3 h4 => (e_u_na h4).trans ((e_u_na h3).trans (e_u_na h2))
  have n7 : bR (adTi B m c is) 7 (bTi B) = e_n (m : Nat) := by
    show e_u (e_u (e_u (bR B) 7 (bTi B) (e_n (m : Nat))) 8 (bTi B) (e_n (c : Nat))) 9 (bTi B) is 7 (bTi B) = _
    rw [e_u_na (by decide), e_u_na (by decide), e_u_same]
  have n8 : bR (adTi B m c is) 8 (bTi B) = e_n (c : Nat) := by
    show e_u (e_u (e_u (bR B) 7 (bTi B) (e_n (m : Nat))) 8 (bTi B) (e_n (c : Nat))) 9 (bTi B) is 8 (bTi B) = _
    rw [e_u_na (by decide), e_u_same]
  have n9 : bR (adTi B m c is) 9 (bTi B) = is := by
    show e_u (e_u (e_u (bR B) 7 (bTi B) (e_n (m : Nat))) 8 (bTi B) (e_n (c : Nat))) 9 (bTi B) is 9 (bTi B) = _
    rw [e_u_same]
  have o : ∀ k, k ≠ bTi B → bR (adTi B m c is) 7 k = bR B 7 k ∧ bR (adTi B m c is) 8 k = bR B 8 k ∧ bR (adTi B m c is) 9 k = bR B 9 k := by
    intro k hk
    show e_u (e_u (e_u (bR B) 7 (bTi B) (e_n (m : Nat))) 8 (bTi B) (e_n (c : Nat))) 9 (bTi B) is 7 k = _ ∧ e_u (e_u (e_u (bR B) 7 (bTi B) (e_n (m : Nat))) 8 (bTi B) (e_n (c : Nat))) 9 (bTi B) is 8 k = _ ∧ e_u (e_u (e_u (bR B) 7 (bTi B) (e_n (m : Nat))) 8 (bTi B) (e_n (c : Nat))) 9 (bTi B) is 9 k = _
    refine ⟨?_, ?_, ?_⟩
    · rw [e_u_na (by decide), e_u_na (by decide), e_u_ne hk]
    · rw [e_u_na (by decide), e_u_ne hk, e_u_na (by decide)]
    · rw [e_u_ne hk, e_u_na (by decide), e_u_na (by decide)]
  refine ⟨w1, w2, w3, w4, w5, h, ?_, ?_, ?_, ?_, ?_, w12, w13, ?_, ?_, ?_, ?_⟩
  · rw [hR 1 (by decide) (by decide) (by decide)]; exact w7
  · rw [hR 2 (by decide) (by decide) (by decide), hR 3 (by decide) (by decide) (by decide), hR 4 (by decide) (by decide) (by decide)]; exact w8
  · rw [hR 5 (by decide) (by decide) (by decide), hR 6 (by decide) (by decide) (by decide), hR 10 (by decide) (by decide) (by decide)]; exact w9
  · rw [hR 10 (by decide) (by decide) (by decide)]; exact w10
  · intro k hk
    have hk' : k < bTi B + 1 := hk
    by_cases e : k = bTi B
    · rw [e, n7, n8, n9]
      exact ⟨⟨m, hm, rfl⟩, ⟨c, hc, rfl⟩, his⟩
    · rw [(o k e).1, (o k e).2.1, (o k e).2.2]
      exact w11 k (by omega)
  · rw [hR 2 (by decide) (by decide) (by decide), hR 3 (by decide) (by decide) (by decide)]; exact w14
  · rw [hR 2 (by decide) (by decide) (by decide), hR 3 (by decide) (by decide) (by decide)]; exact w15
  · rw [hR 6 (by decide) (by decide) (by decide)]; exact w16
  · intro j k hj hk
    have hj' : j < bTi B + 1 := hj
    have hkne : k ≠ bTi B := by omega
    rw [(o k hkne).1, (o k hkne).2.1]
    by_cases e : j = bTi B
    · rw [e, n7, n8]
      exact fun q => tdB_f htd k (by omega) ⟨q.1.symm, q.2.symm⟩
    · rw [(o j e).1, (o j e).2.1]
      exact w17 j k (by omega) hk
theorem WB_O {B : e_B} {a : List Int32} (wb : WB B) (h1 : a.length ≤ 700) (h2 : okO a 0 = true) : WB (stO B a) := by
  obtain ⟨w1, w2, w3, w4, w5, w6, w7, w8, w9, w10, w11, w12, w13, w14, w15, w16, w17⟩ := wb
  exact ⟨w1, w2, w3, w4, w5, w6, w7, w8, w9, w10, w11, h1, Or.inr h2, w14, w15, w16, w17⟩
end S99zzc
