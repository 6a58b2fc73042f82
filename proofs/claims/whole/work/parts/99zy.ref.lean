/-! the reference reads a rule: behind an operand -/
section S99zy
theorem Ysg_ne {b : Nat → Int32} {n p : Nat} {c c2 : Int32} (h : Ysg b n p c) (hne : ¬ c = c2) : ¬ Ysg b n p c2 := fun q => hne (h.2.symm.trans q.2)
theorem Ysg_w {b : Nat → Int32} {n p k : Nat} {c : Int32} (hk : k < 17) (h : Ysg b n p c) : ¬ Yw b n p = e_n (k : Nat) := fun q => absurd ((Yw_1 hk q).symm.trans h.1) (by decide)
theorem Yw_s {b : Nat → Int32} {n p k : Nat} {c : Int32} (hk : k < 17) (h : Yw b n p = e_n (k : Nat)) : ¬ Ysg b n p c := fun q => absurd ((Yw_1 hk h).symm.trans q.1) (by decide)
theorem dropS {d n p : Nat} {l : Int32} {b : Nat → Int32} {J : Nat → Nat → Int32} {z : e_Z} {o W : List Int32} {T : List Bool} (hn : n ≤ 700) (hS : RS z J b n p o W T) : ∃ J1, e_E (d + 2) 201 [.ref 489, .int l] (mk J z) = some (.inl none, mk J1 z) ∧ RO J1 (Zdr l o W).1 (Zdr l o W).2 ∧ OFr J J1 := by
  obtain ⟨hR, h20, hO, hD, hT, hb, hw⟩ := hS
  have hp := hR.1
  exact dropsH W o J hO (by omega) (by omega)
theorem pushG {d n p : Nat} {l c : Int32} {b : Nat → Int32} {J J1 : Nat → Nat → Int32} {z : e_Z} {o W : List Int32} {T : List Bool} (hn : n ≤ 700) (hS : RS z J b n p o W T) (hp : p < n) (hc : c < e_n 14) (h1 : RO J1 (Zdr l o W).1 (Zdr l o W).2) (h2 : OFr J J1) :
    InR (J1 489 39) 950 ∧ ∃ J2 z2, e_E (d + 2) 187 [.ref 489] (mk (e_u (e_u J1 513 (J1 489 39).toNatClampNeg c) 489 39 (J1 489 39 + e_n 1)) z) = some (.inl none, mk J2 z2) ∧ RS z2 J2 b n (nxP b n p) (Zdr l o W).1 (c :: (Zdr l o W).2) T ∧ RFr J J2 ∧ LF z z2 := by
  obtain ⟨hR, h20, hO, hD, hT, hb, hw⟩ := hS
  obtain ⟨l1, l2⟩ := Zdr_len (l := l) W o
  obtain ⟨w1, w2⟩ := RO_w (v := c) h1 (by omega)
  have f : OFr J (e_u (e_u J1 513 (J1 489 39).toNatClampNeg c) 489 39 (J1 489 39 + e_n 1)) := ⟨fun r q1 q2 q3 => by rw [e_u_na q1, e_u_na q3]; exact h2.1 r q1 q2 q3, fun k q1 q2 => by rw [e_u_ne q2, e_u_na (by decide)]; exact h2.2 k q1 q2⟩
  exact ⟨w2, rs_goes (d := d) hn (TR_fr hR (f.1 500 (by decide) (by decide) (by decide)) (fun k k1 k2 => f.2 k (by omega) (by omega))) ((f.2 20 (by decide) (by decide)).trans h20) w1 (RD_fr hD (f.1 514 (by decide) (by decide) (by decide)) (f.2 40 (by decide) (by decide))) (by rw [Zco_c hc, Zdr_co]; exact hT) hp (by simp; omega) (by simp; omega) (RFr_of f)⟩
theorem pushT {d n p : Nat} {l c x : Int32} {v : Bool} {b : Nat → Int32} {J J1 : Nat → Nat → Int32} {z : e_Z} {o W : List Int32} {T : List Bool} (hn : n ≤ 700) (hS : RS z J b n p o W T) (hp : p < n) (hc : c < e_n 14) (hx : x = if v = true then e_n 1 else e_n 0) (h1 : RO J1 (Zdr l o W).1 (Zdr l o W).2) (h2 : OFr J J1) :
    InR (J1 489 39) 950 ∧ InR (J1 489 40) 9 ∧ ∃ J2 z2, e_E (d + 2) 187 [.ref 489] (mk (e_u (e_u (e_u J1 513 (J1 489 39).toNatClampNeg c) 489 39 (J1 489 39 + e_n 1)) 514 (J1 489 40).toNatClampNeg x) z) = some (.inl none, mk J2 z2) ∧ RS z2 J2 b n (nxP b n p) (Zdr l o W).1 (c :: (Zdr l o W).2) (Zsh v T) ∧ RFr J J2 ∧ LF z z2 := by
  obtain ⟨hR, h20, hO, hD, hT, hb, hw⟩ := hS
  obtain ⟨l1, l2⟩ := Zdr_len (l := l) W o
  obtain ⟨w1, w2⟩ := RO_w (v := c) h1 (by omega)
  have f : OFr J (e_u (e_u J1 513 (J1 489 39).toNatClampNeg c) 489 39 (J1 489 39 + e_n 1)) := ⟨fun r q1 q2 q3 => by rw [e_u_na q1, e_u_na q3]; exact h2.1 r q1 q2 q3, fun k q1 q2 => by rw [e_u_ne q2, e_u_na (by decide)]; exact h2.2 k q1 q2⟩
  have e40 : (e_u (e_u J1 513 (J1 489 39).toNatClampNeg c) 489 39 (J1 489 39 + e_n 1)) 489 40 = J1 489 40 := by rw [e_u_ne (by decide), e_u_na (by decide)]
  have hDK := RD_fr hD (f.1 514 (by decide) (by decide) (by decide)) (f.2 40 (by decide) (by decide))
  generalize hK : (e_u (e_u J1 513 (J1 489 39).toNatClampNeg c) 489 39 (J1 489 39 + e_n 1)) = K at *
  cases T with
  | nil => simp at hT
  | cons t T =>
    obtain ⟨d1, d2⟩ := RD_s (v := v) (x := x) hDK hx
    rw [e40] at d1 d2
    have g : RFr J (e_u K 514 (J1 489 40).toNatClampNeg x) := ⟨fun r q1 q2 q3 q4 => by rw [e_u_na q4]; exact f.1 r q1 q2 q3, fun k hk => by rw [e_u_na (by decide)]; exact f.2 k (by omega) (by omega)⟩
    have g9 : ∀ k, (e_u K 514 (J1 489 40).toNatClampNeg x) 489 k = K 489 k := fun k => by rw [e_u_na (by decide)]
    exact ⟨w2, d2, rs_goes (d := d) hn (TR_fr hR ((e_u_na (by decide)).trans (f.1 500 (by decide) (by decide) (by decide))) (fun k k1 k2 => (g9 k).trans (f.2 k (by omega) (by omega)))) ((g9 20).trans ((f.2 20 (by decide) (by decide)).trans h20)) (RO_fr w1 (e_u_na (by decide)) (e_u_na (by decide)) (g9 38) (g9 39)) d1 (by rw [Zco_c hc, Zdr_co]; simpa [Zsh] using hT) hp (by simp; omega) (by simp; omega) g⟩
theorem RD_h {J : Nat → Nat → Int32} {T : List Bool} (h : RD J T) (h1 : 1 ≤ T.length) : InR (J 489 40) 9 ∧ ((J 514 (J 489 40).toNatClampNeg = 0) ↔ T.headD true = false) := by
  obtain ⟨a1, a2, a3⟩ := h
  refine ⟨by rw [a1]; exact InR_n (by omega) (by omega) (by omega), ?_⟩
  rw [a1, e_n_nat' (by omega)]
  cases T with
  | nil => simp at h1
  | cons t T =>
    have := a3 0 (by simp)
    simp at this ⊢
    rw [this]
    cases t <;> simp <;> decide
/-- how the reference goes on behind an operand -/
def AFo (z : e_Z) (J' : Nat → Nat → Int32) (z' : e_Z) (b : Nat → Int32) (n : Nat) (x : Int32) (r : ZR) : Prop :=
  LF z z' ∧ ((∃ p' o' W' T', x = e_n 0 ∧ r = .inl (p', o', W', T') ∧ RS z' J' b n p' o' W' T') ∨ (∃ g q, x = e_n 1 ∧ r = .inr (g, q) ∧ RX J' g q))
def AFH (d n N : Nat) (b : Nat → Int32) : Prop := ∀ f, f ≤ N → ∀ (p : Nat) (o W : List Int32) (T : List Bool) (J : Nat → Nat → Int32) (z : e_Z) (u : Value), n < p + f → RS z J b n p o W T → ∃ J' z' x u', e_L (d + 5) 208 29 [.ref 489, .int (e_n 1), u] [] (mk J z) = e_L (d + 5) 208 29 [.ref 489, .int x, u'] [] (mk J' z') ∧ RFr J J' ∧ AFo z J' z' b n x (Zr b n f none p o W T)
theorem after_op {d n N f p2 : Nat} {b : Nat → Int32} {mn : Bool} {o2 W2 : List Int32} {T2 : List Bool} {J J2 : Nat → Nat → Int32} {z z2 : e_Z} (hn : n ≤ 700) (ih : AFH d n N b) (hS : RS z2 J2 b n p2 o2 W2 T2) (hf : n < p2 + f) (hfN : f ≤ N) (hR : RFr J J2) (hL : LF z z2) :
    ∃ J3 z3, e_E (d + 5) 205 [.ref 489, .int (if mn = true then e_n 1 else e_n 0)] (mk J2 z2) = some (.inl none, mk J3 z3) ∧ ∀ u, ∃ J' z' x u', e_L (d + 5) 208 29 [.ref 489, .int (e_n 1), u] [] (mk J3 z3) = e_L (d + 5) 208 29 [.ref 489, .int x, u'] [] (mk J' z') ∧ RFr J J' ∧ AFo z J' z' b n x (Zr b n f (some (mn, 0)) p2 o2 W2 T2) := by
  obtain ⟨J3, z3, e1, e2, e3, e4⟩ := opE (d := d) (mn := mn) hn hf hS
  refine ⟨J3, z3, e1, fun u => ?_⟩
  rcases e4 with ⟨f', p', o', W', T', q1, q2, q3, q4⟩ | ⟨g, q, q1, q2⟩
  · obtain ⟨J', z', x, u', a1, a2, a3, a4⟩ := ih f' (by omega) p' o' W' T' J3 z3 u q2 q4
    exact ⟨J', z', x, u', a1, RFr_tr (RFr_tr hR e2) a2, LF_tr (LF_tr hL e3) a3, by rw [q3]; exact a4⟩
  · exact ⟨J3, z3, e_n 1, u, rfl, RFr_tr hR e2, LF_tr hL e3, Or.inr ⟨g, q, rfl, q1, q2⟩⟩
theorem closeH {d n p : Nat} {b : Nat → Int32} {J : Nat → Nat → Int32} {z : e_Z} {o W : List Int32} {T : List Bool} (hn : n ≤ 700) (hS : RS z J b n p o W T) (hp : p < n) (hc : 1 ≤ Zco W) : ∃ J' z', e_E (d + 5) 207 [.ref 489] (mk J z) = some (.inl none, mk J' z') ∧ RS z' J' b n (nxP b n p) (Zdr (e_n 0) o W).1 (Zdr (e_n 0) o W).2.tail T.tail ∧ RFr J J' ∧ LF z z' := by
  obtain ⟨J1, a1, a2, a3⟩ := dropS (d := d + 2) (l := e_n 0) hn hS
  obtain ⟨hR, h20, hO, hD, hT, hb, hw⟩ := hS
  obtain ⟨l1, l2⟩ := Zdr_len (l := e_n 0) W o
  obtain ⟨c, W', w1, w2, w3⟩ := Zdr_0 W o hc
  rw [w1] at a2 l1 l2 ⊢
  obtain ⟨r1, r2, r3, r4⟩ := a2
  have hDK := RD_fr hD (a3.1 514 (by decide) (by decide) (by decide)) (a3.2 40 (by decide) (by decide))
  generalize (Zdr (e_n 0) o W).1 = o1 at *
  cases T with
  | nil => simp at hT
  | cons t T =>
    obtain ⟨d1, d2, d3⟩ := hDK
    have h39 : J1 489 39 - e_n 1 = e_n (W'.length : Nat) := by rw [r3, e_n_sub]; congr 1; simp
    have h40 : J1 489 40 - e_n 1 = e_n (T.length : Nat) := by rw [d1, e_n_sub]; congr 1; simp
    have f : ∀ r, r ≠ 489 → (e_u (e_u J1 489 39 (J1 489 39 - e_n 1)) 489 40 (J1 489 40 - e_n 1)) r = J1 r := fun r hr => by rw [e_u_na hr, e_u_na hr]
    have f9 : ∀ k, k ≠ 39 → k ≠ 40 → (e_u (e_u J1 489 39 (J1 489 39 - e_n 1)) 489 40 (J1 489 40 - e_n 1)) 489 k = J1 489 k := fun k k1 k2 => by rw [e_u_ne k2, e_u_ne k1]
    have hO' : RO (e_u (e_u J1 489 39 (J1 489 39 - e_n 1)) 489 40 (J1 489 40 - e_n 1)) o1 W' := by
      refine ⟨by rw [f9 38 (by decide) (by decide)]; exact r1, fun j hj => by rw [f 512 (by decide)]; exact r2 j hj, by rw [e_u_ne (by decide), e_u_same]; exact h39, fun j hj => ?_⟩
      rw [f 513 (by decide)]
      have := r4 (j + 1) (by simp; omega)
      simp at this
      rw [show W'.length - 1 - j = W'.length - (j + 1) by omega]
      simpa using this
    have hD' : RD (e_u (e_u J1 489 39 (J1 489 39 - e_n 1)) 489 40 (J1 489 40 - e_n 1)) T := by
      refine ⟨by rw [e_u_same]; exact h40, by simp at d2; omega, fun j hj => ?_⟩
      rw [f 514 (by decide)]
      have := d3 (j + 1) (by simp; omega)
      simp at this ⊢
      exact this
    obtain ⟨J2, z2, b1, b2, b3, b4⟩ := rs_goes (d := d + 2) (J0 := J) hn (TR_fr hR ((f 500 (by decide)).trans (a3.1 500 (by decide) (by decide) (by decide))) (fun k k1 k2 => (f9 k (by omega) (by omega)).trans (a3.2 k (by omega) (by omega)))) ((f9 20 (by decide) (by decide)).trans ((a3.2 20 (by decide) (by decide)).trans h20)) hO' hD' (by simp at hT; omega) hp (by simp at l1; omega) (by simp at l2; omega) ⟨fun r q1 q2 q3 q4 => (f r q1).trans (a3.1 r q1 q2 q3), fun k hk => (f9 k (by omega) (by omega)).trans (a3.2 k (by omega) (by omega))⟩
    refine ⟨J2, z2, e_E_ret (d := d + 4) ?_, b2, b3, b4⟩
    show e_L (d + 4) 207 0 [.ref 489] [] (mk J z) = _
    rw [C207_0, a1, e_rV_n, C207_5, b1, e_rV_n, C207_29]
theorem afH {d n : Nat} {b : Nat → Int32} (hn : n ≤ 700) : ∀ N, AFH d n N b := by
  intro N
  induction N with
  | zero =>
    intro f hfN p o W T J z u hf hS
    have := hS.1.1
    omega
  | succ N ih =>
    intro f hfN p o W T J z u hf hS
    have hpn := hS.1.1
    obtain ⟨f, rfl⟩ : ∃ g, f = g + 1 := ⟨f - 1, by omega⟩
    have hR := hS.1
    have hD := hS.2.2.2.1
    have hT := hS.2.2.2.2.1
    obtain ⟨g40, htst⟩ := RD_h hD (by omega)
    have nosg : ∀ c, ¬ Ysg b n p c → (J 489 25 = e_n 3 ∧ J 489 29 = c) = False := fun c h => eq_false (fun q => h ((TR_s hR).mp q))
    have yesg : ∀ c, Ysg b n p c → (J 489 25 = e_n 3 ∧ J 489 29 = c) = True := fun c h => eq_true ((TR_s hR).mpr h)
    have stop : ∀ r, Zr b n (f + 1) none p o W T = r → r = .inl (p, o, W, T) → ∃ J' z' x u', e_L (d + 5) 208 29 [.ref 489, .int (e_n 0), .int (Yw b n p)] [] (mk J z) = e_L (d + 5) 208 29 [.ref 489, .int x, u'] [] (mk J' z') ∧ RFr J J' ∧ AFo z J' z' b n x r := by
      intro r _ hr
      exact ⟨J, z, e_n 0, .int (Yw b n p), rfl, RFr_rf, LF_rf z, Or.inl ⟨p, o, W, T, rfl, hr, hS⟩⟩
    rw [C208_29, if_neg (by decide), if_pos (RS_g hS), wkH (d := d + 2) hn hR, e_rI_i, C208_44 (fun _ _ _ => g40) (fun _ _ _ _ => g40)]
    by_cases hw14 : Yw b n p = e_n ((14 : Nat) : Nat)
    · have hp := (tk_1 (Yw_1 (k := 14) (by decide) hw14)).1
      have hlt := nxP_lt (b := b) hp
      have hw' : Yw b n p = e_n 14 := hw14
      obtain ⟨J1, a1, a2, a3⟩ := dropS (d := d + 3) (l := e_n 2) hn hS
      obtain ⟨g1, g2, J2, z2, b1, b2, b3, b4⟩ := pushT (d := d + 3) (c := if Yw b n p = e_n 14 then e_n 4 else e_n 5) (x := e_n 0 &&& 1) (v := false) hn hS hp (by rw [hw']; decide) (by decide) a2 a3
      obtain ⟨J3, z3, c1, c2⟩ := after_op (mn := true) hn ih b2 (show n < nxP b n p + f by omega) (by omega) b3 b4
      have c1' : e_E (d + 5) 205 [.ref 489, .int (e_n 1)] (mk J2 z2) = some (.inl none, mk J3 z3) := c1
      rw [if_pos hw', a1, e_rV_n, C208_72 (fun _ => g1) (fun _ => g2) (fun _ => g1) (fun _ => g2), b1, e_rV_n, C208_101, c1', e_rV_n, C208_106, Zr_af, if_pos hw14]
      have e : (if Yw b n p = e_n 14 then e_n 4 else e_n 5) = e_n 4 := by rw [hw']; decide
      rw [e] at c2
      exact c2 _
    by_cases hw15 : Yw b n p = e_n ((15 : Nat) : Nat)
    · have hp := (tk_1 (Yw_1 (k := 15) (by decide) hw15)).1
      have hlt := nxP_lt (b := b) hp
      have hw' : Yw b n p = e_n 15 := hw15
      obtain ⟨J1, a1, a2, a3⟩ := dropS (d := d + 3) (l := e_n 1) hn hS
      obtain ⟨g1, g2, J2, z2, b1, b2, b3, b4⟩ := pushT (d := d + 3) (c := if Yw b n p = e_n 14 then e_n 4 else e_n 5) (x := e_n 0 &&& 1) (v := false) hn hS hp (by rw [hw']; decide) (by decide) a2 a3
      obtain ⟨J3, z3, c1, c2⟩ := after_op (mn := true) hn ih b2 (show n < nxP b n p + f by omega) (by omega) b3 b4
      have c1' : e_E (d + 5) 205 [.ref 489, .int (e_n 1)] (mk J2 z2) = some (.inl none, mk J3 z3) := c1
      rw [if_neg (show ¬ Yw b n p = e_n 14 from fun q => hw14 q), if_pos hw', a1, e_rV_n, C208_72 (fun _ => g1) (fun _ => g2) (fun _ => g1) (fun _ => g2), b1, e_rV_n, C208_101, c1', e_rV_n, C208_106, Zr_af, if_neg hw14, if_pos hw15]
      have e : (if Yw b n p = e_n 14 then e_n 4 else e_n 5) = e_n 5 := by rw [hw']; decide
      rw [e] at c2
      exact c2 _
    rw [if_neg (show ¬ Yw b n p = e_n 14 from fun q => hw14 q), if_neg (show ¬ Yw b n p = e_n 15 from fun q => hw15 q)]
    by_cases hs60 : Ysg b n p (e_n 60)
    · have hp := (tk_3 hs60.1).1
      have hlt := nxP_lt (b := b) hp
      simp only [yesg (e_n 60) hs60, nosg (e_n 61) (Ysg_ne hs60 (by decide)), nosg (e_n 43) (Ysg_ne hs60 (by decide)), nosg (e_n 45) (Ysg_ne hs60 (by decide)), nosg (e_n 42) (Ysg_ne hs60 (by decide)), nosg (e_n 47) (Ysg_ne hs60 (by decide)), nosg (e_n 41) (Ysg_ne hs60 (by decide)), if_true, if_false]
      by_cases ht : T.headD true = false
      · obtain ⟨J1, a1, a2, a3⟩ := dropS (d := d + 3) (l := e_n 4) hn hS
        have e2 : (J1 489 25 = e_n 3 ∧ J1 489 29 = e_n 60) = (Ysg b n p (e_n 60)) := by
          rw [a3.2 25 (by decide) (by decide), a3.2 29 (by decide) (by decide)]
          exact propext (TR_s hR)
        have e : (if J1 489 25 = e_n 3 ∧ J1 489 29 = e_n 60 then e_n 6 else e_n 7) = e_n 6 := by
          rw [if_pos (e2.mpr hs60)]
        obtain ⟨g1, g2, J2, z2, b1, b2, b3, b4⟩ := pushT (d := d + 3) (c := e_n 6) (x := e_n 1 &&& 1) (v := true) hn hS hp (by decide) (by decide) a2 a3
        obtain ⟨J3, z3, c1, c2⟩ := after_op (mn := false) hn ih b2 (show n < nxP b n p + f by omega) (by omega) b3 b4
        have c1' : e_E (d + 5) 205 [.ref 489, .int (e_n 0)] (mk J2 z2) = some (.inl none, mk J3 z3) := c1
        rw [if_pos (htst.mpr ht), a1, e_rV_n, C208_144 (fun _ => g1) (fun _ => g2) (fun _ => g1) (fun _ => g2), e, b1, e_rV_n, C208_178, c1', e_rV_n, C208_183, Zr_af, if_neg hw14, if_neg hw15, if_pos ⟨hs60, ht⟩]
        exact c2 _
      · rw [if_neg (fun q => ht (htst.mp q))]
        exact stop _ rfl (by rw [Zr_af, if_neg hw14, if_neg hw15, if_neg (fun q => ht q.2), if_neg (fun q => Ysg_ne hs60 (show ¬ e_n 60 = e_n 61 by decide) q.1), if_neg (Ysg_ne hs60 (by decide)), if_neg (Ysg_ne hs60 (by decide)), if_neg (Ysg_ne hs60 (by decide)), if_neg (Ysg_ne hs60 (by decide)), if_neg (fun q => Ysg_ne hs60 (show ¬ e_n 60 = e_n 41 by decide) q.1)])
    by_cases hs61 : Ysg b n p (e_n 61)
    · have hp := (tk_3 hs61.1).1
      have hlt := nxP_lt (b := b) hp
      simp only [nosg (e_n 60) (Ysg_ne hs61 (by decide)), yesg (e_n 61) hs61, nosg (e_n 43) (Ysg_ne hs61 (by decide)), nosg (e_n 45) (Ysg_ne hs61 (by decide)), nosg (e_n 42) (Ysg_ne hs61 (by decide)), nosg (e_n 47) (Ysg_ne hs61 (by decide)), nosg (e_n 41) (Ysg_ne hs61 (by decide)), if_true, if_false]
      by_cases ht : T.headD true = false
      · obtain ⟨J1, a1, a2, a3⟩ := dropS (d := d + 3) (l := e_n 4) hn hS
        have e2 : (J1 489 25 = e_n 3 ∧ J1 489 29 = e_n 60) = (Ysg b n p (e_n 60)) := by
          rw [a3.2 25 (by decide) (by decide), a3.2 29 (by decide) (by decide)]
          exact propext (TR_s hR)
        have e : (if J1 489 25 = e_n 3 ∧ J1 489 29 = e_n 60 then e_n 6 else e_n 7) = e_n 7 := by
          rw [if_neg (fun q => Ysg_ne hs61 (by decide) (e2.mp q))]
        obtain ⟨g1, g2, J2, z2, b1, b2, b3, b4⟩ := pushT (d := d + 3) (c := e_n 7) (x := e_n 1 &&& 1) (v := true) hn hS hp (by decide) (by decide) a2 a3
        obtain ⟨J3, z3, c1, c2⟩ := after_op (mn := false) hn ih b2 (show n < nxP b n p + f by omega) (by omega) b3 b4
        have c1' : e_E (d + 5) 205 [.ref 489, .int (e_n 0)] (mk J2 z2) = some (.inl none, mk J3 z3) := c1
        rw [if_pos (htst.mpr ht), a1, e_rV_n, C208_144 (fun _ => g1) (fun _ => g2) (fun _ => g1) (fun _ => g2), e, b1, e_rV_n, C208_178, c1', e_rV_n, C208_183, Zr_af, if_neg hw14, if_neg hw15, if_neg (fun q => Ysg_ne hs61 (show ¬ e_n 61 = e_n 60 by decide) q.1), if_pos ⟨hs61, ht⟩]
        exact c2 _
      · rw [if_neg (fun q => ht (htst.mp q))]
        exact stop _ rfl (by rw [Zr_af, if_neg hw14, if_neg hw15, if_neg (fun q => Ysg_ne hs61 (show ¬ e_n 61 = e_n 60 by decide) q.1), if_neg (fun q => ht q.2), if_neg (Ysg_ne hs61 (by decide)), if_neg (Ysg_ne hs61 (by decide)), if_neg (Ysg_ne hs61 (by decide)), if_neg (Ysg_ne hs61 (by decide)), if_neg (fun q => Ysg_ne hs61 (show ¬ e_n 61 = e_n 41 by decide) q.1)])
    by_cases hs43 : Ysg b n p (e_n 43)
    · have hp := (tk_3 hs43.1).1
      have hlt := nxP_lt (b := b) hp
      simp only [nosg (e_n 60) (Ysg_ne hs43 (by decide)), nosg (e_n 61) (Ysg_ne hs43 (by decide)), yesg (e_n 43) hs43, nosg (e_n 45) (Ysg_ne hs43 (by decide)), nosg (e_n 42) (Ysg_ne hs43 (by decide)), nosg (e_n 47) (Ysg_ne hs43 (by decide)), nosg (e_n 41) (Ysg_ne hs43 (by decide)), if_true, if_false]
      obtain ⟨J1, a1, a2, a3⟩ := dropS (d := d + 3) (l := e_n 5) hn hS
      have e2 : (J1 489 25 = e_n 3 ∧ J1 489 29 = e_n 43) = (Ysg b n p (e_n 43)) := by
        rw [a3.2 25 (by decide) (by decide), a3.2 29 (by decide) (by decide)]
        exact propext (TR_s hR)
      have e : (if J1 489 25 = e_n 3 ∧ J1 489 29 = e_n 43 then e_n 8 else e_n 9) = e_n 8 := by
        rw [if_pos (e2.mpr hs43)]
      obtain ⟨g1, J2, z2, b1, b2, b3, b4⟩ := pushG (d := d + 3) (c := e_n 8) hn hS hp (by decide) a2 a3
      obtain ⟨J3, z3, c1, c2⟩ := after_op (mn := false) hn ih b2 (show n < nxP b n p + f by omega) (by omega) b3 b4
      have c1' : e_E (d + 5) 205 [.ref 489, .int (e_n 0)] (mk J2 z2) = some (.inl none, mk J3 z3) := c1
      rw [a1, e_rV_n, C208_209 (fun _ => g1) (fun _ => g1), e, b1, e_rV_n, C208_233, c1', e_rV_n, C208_238, Zr_af, if_neg hw14, if_neg hw15, if_neg (fun q => Ysg_ne hs43 (show ¬ e_n 43 = e_n 60 by decide) q.1), if_neg (fun q => Ysg_ne hs43 (show ¬ e_n 43 = e_n 61 by decide) q.1), if_pos hs43]
      exact c2 _
    by_cases hs45 : Ysg b n p (e_n 45)
    · have hp := (tk_3 hs45.1).1
      have hlt := nxP_lt (b := b) hp
      simp only [nosg (e_n 60) (Ysg_ne hs45 (by decide)), nosg (e_n 61) (Ysg_ne hs45 (by decide)), nosg (e_n 43) (Ysg_ne hs45 (by decide)), yesg (e_n 45) hs45, nosg (e_n 42) (Ysg_ne hs45 (by decide)), nosg (e_n 47) (Ysg_ne hs45 (by decide)), nosg (e_n 41) (Ysg_ne hs45 (by decide)), if_true, if_false]
      obtain ⟨J1, a1, a2, a3⟩ := dropS (d := d + 3) (l := e_n 5) hn hS
      have e2 : (J1 489 25 = e_n 3 ∧ J1 489 29 = e_n 43) = (Ysg b n p (e_n 43)) := by
        rw [a3.2 25 (by decide) (by decide), a3.2 29 (by decide) (by decide)]
        exact propext (TR_s hR)
      have e : (if J1 489 25 = e_n 3 ∧ J1 489 29 = e_n 43 then e_n 8 else e_n 9) = e_n 9 := by
        rw [if_neg (fun q => Ysg_ne hs45 (by decide) (e2.mp q))]
      obtain ⟨g1, J2, z2, b1, b2, b3, b4⟩ := pushG (d := d + 3) (c := e_n 9) hn hS hp (by decide) a2 a3
      obtain ⟨J3, z3, c1, c2⟩ := after_op (mn := false) hn ih b2 (show n < nxP b n p + f by omega) (by omega) b3 b4
      have c1' : e_E (d + 5) 205 [.ref 489, .int (e_n 0)] (mk J2 z2) = some (.inl none, mk J3 z3) := c1
      rw [a1, e_rV_n, C208_209 (fun _ => g1) (fun _ => g1), e, b1, e_rV_n, C208_233, c1', e_rV_n, C208_238, Zr_af, if_neg hw14, if_neg hw15, if_neg (fun q => Ysg_ne hs45 (show ¬ e_n 45 = e_n 60 by decide) q.1), if_neg (fun q => Ysg_ne hs45 (show ¬ e_n 45 = e_n 61 by decide) q.1), if_neg (Ysg_ne hs45 (by decide)), if_pos hs45]
      exact c2 _
    by_cases hs42 : Ysg b n p (e_n 42)
    · have hp := (tk_3 hs42.1).1
      have hlt := nxP_lt (b := b) hp
      simp only [nosg (e_n 60) (Ysg_ne hs42 (by decide)), nosg (e_n 61) (Ysg_ne hs42 (by decide)), nosg (e_n 43) (Ysg_ne hs42 (by decide)), nosg (e_n 45) (Ysg_ne hs42 (by decide)), yesg (e_n 42) hs42, nosg (e_n 47) (Ysg_ne hs42 (by decide)), nosg (e_n 41) (Ysg_ne hs42 (by decide)), if_true, if_false]
      obtain ⟨J1, a1, a2, a3⟩ := dropS (d := d + 3) (l := e_n 6) hn hS
      have e2 : (J1 489 25 = e_n 3 ∧ J1 489 29 = e_n 42) = (Ysg b n p (e_n 42)) := by
        rw [a3.2 25 (by decide) (by decide), a3.2 29 (by decide) (by decide)]
        exact propext (TR_s hR)
      have e : (if J1 489 25 = e_n 3 ∧ J1 489 29 = e_n 42 then e_n 10 else e_n 11) = e_n 10 := by
        rw [if_pos (e2.mpr hs42)]
      obtain ⟨g1, J2, z2, b1, b2, b3, b4⟩ := pushG (d := d + 3) (c := e_n 10) hn hS hp (by decide) a2 a3
      obtain ⟨J3, z3, c1, c2⟩ := after_op (mn := false) hn ih b2 (show n < nxP b n p + f by omega) (by omega) b3 b4
      have c1' : e_E (d + 5) 205 [.ref 489, .int (e_n 0)] (mk J2 z2) = some (.inl none, mk J3 z3) := c1
      rw [a1, e_rV_n, C208_265 (fun _ => g1) (fun _ => g1), e, b1, e_rV_n, C208_289, c1', e_rV_n, C208_294, Zr_af, if_neg hw14, if_neg hw15, if_neg (fun q => Ysg_ne hs42 (show ¬ e_n 42 = e_n 60 by decide) q.1), if_neg (fun q => Ysg_ne hs42 (show ¬ e_n 42 = e_n 61 by decide) q.1), if_neg (Ysg_ne hs42 (by decide)), if_neg (Ysg_ne hs42 (by decide)), if_pos hs42]
      exact c2 _
    by_cases hs47 : Ysg b n p (e_n 47)
    · have hp := (tk_3 hs47.1).1
      have hlt := nxP_lt (b := b) hp
      simp only [nosg (e_n 60) (Ysg_ne hs47 (by decide)), nosg (e_n 61) (Ysg_ne hs47 (by decide)), nosg (e_n 43) (Ysg_ne hs47 (by decide)), nosg (e_n 45) (Ysg_ne hs47 (by decide)), nosg (e_n 42) (Ysg_ne hs47 (by decide)), yesg (e_n 47) hs47, nosg (e_n 41) (Ysg_ne hs47 (by decide)), if_true, if_false]
      obtain ⟨J1, a1, a2, a3⟩ := dropS (d := d + 3) (l := e_n 6) hn hS
      have e2 : (J1 489 25 = e_n 3 ∧ J1 489 29 = e_n 42) = (Ysg b n p (e_n 42)) := by
        rw [a3.2 25 (by decide) (by decide), a3.2 29 (by decide) (by decide)]
        exact propext (TR_s hR)
      have e : (if J1 489 25 = e_n 3 ∧ J1 489 29 = e_n 42 then e_n 10 else e_n 11) = e_n 11 := by
        rw [if_neg (fun q => Ysg_ne hs47 (by decide) (e2.mp q))]
      obtain ⟨g1, J2, z2, b1, b2, b3, b4⟩ := pushG (d := d + 3) (c := e_n 11) hn hS hp (by decide) a2 a3
      obtain ⟨J3, z3, c1, c2⟩ := after_op (mn := false) hn ih b2 (show n < nxP b n p + f by omega) (by omega) b3 b4
      have c1' : e_E (d + 5) 205 [.ref 489, .int (e_n 0)] (mk J2 z2) = some (.inl none, mk J3 z3) := c1
      rw [a1, e_rV_n, C208_265 (fun _ => g1) (fun _ => g1), e, b1, e_rV_n, C208_289, c1', e_rV_n, C208_294, Zr_af, if_neg hw14, if_neg hw15, if_neg (fun q => Ysg_ne hs47 (show ¬ e_n 47 = e_n 60 by decide) q.1), if_neg (fun q => Ysg_ne hs47 (show ¬ e_n 47 = e_n 61 by decide) q.1), if_neg (Ysg_ne hs47 (by decide)), if_neg (Ysg_ne hs47 (by decide)), if_neg (Ysg_ne hs47 (by decide)), if_pos hs47]
      exact c2 _
    by_cases hs41 : Ysg b n p (e_n 41)
    · have hp := (tk_3 hs41.1).1
      have hlt := nxP_lt (b := b) hp
      simp only [nosg (e_n 60) hs60, nosg (e_n 61) hs61, nosg (e_n 43) hs43, nosg (e_n 45) hs45, nosg (e_n 42) hs42, nosg (e_n 47) hs47, yesg (e_n 41) hs41, if_true, if_false]
      rw [openH (d := d + 3) hS.2.2.1 (by have := hS.2.2.2.2.2.2; omega), e_rI_i, C208_310]
      by_cases hc : 1 ≤ Zco W
      · obtain ⟨J1, z1, a1, a2, a3, a4⟩ := closeH (d := d) hn hS hp hc
        rw [if_pos hc, if_neg (by decide), a1, e_rV_n, C208_317, Zr_af, if_neg hw14, if_neg hw15, if_neg (fun q => hs60 q.1), if_neg (fun q => hs61 q.1), if_neg hs43, if_neg hs45, if_neg hs42, if_neg hs47, if_pos ⟨hs41, hc⟩]
        obtain ⟨J', z', x, u', b1, b2, b3, b4⟩ := ih f (by omega) _ _ _ _ J1 z1 (.int (Yw b n p)) (show n < nxP b n p + f by omega) a2
        exact ⟨J', z', x, u', b1, RFr_tr a3 b2, LF_tr a4 b3, b4⟩
      · rw [if_neg hc, if_pos (by decide)]
        exact stop _ rfl (by rw [Zr_af, if_neg hw14, if_neg hw15, if_neg (fun q => hs60 q.1), if_neg (fun q => hs61 q.1), if_neg hs43, if_neg hs45, if_neg hs42, if_neg hs47, if_neg (fun q => hc q.2)])
    · simp only [nosg (e_n 60) hs60, nosg (e_n 61) hs61, nosg (e_n 43) hs43, nosg (e_n 45) hs45, nosg (e_n 42) hs42, nosg (e_n 47) hs47, nosg (e_n 41) hs41, if_false]
      exact stop _ rfl (by rw [Zr_af, if_neg hw14, if_neg hw15, if_neg (fun q => hs60 q.1), if_neg (fun q => hs61 q.1), if_neg hs43, if_neg hs45, if_neg hs42, if_neg hs47, if_neg (fun q => hs41 q.1)])
end S99zy
