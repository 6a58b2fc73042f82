/-! scribe and tells -/
section S95
abbrev e_W : Type := Nat × Int32 × (Nat → Int32)
def okW (B : e_B) (M : Nat → Int32) (n : Nat) (w : Nat → Int32) (ns p c : Nat) : Bool := wiF B M n p c && al (seC B (wiS B M n p c) n w) ns 0
def stW (B : e_B) (M : Nat → Int32) (n : Nat) (w : Nat → Int32) (ns p c : Nat) (T : e_W) : e_W := if okW B M n w ns p c then (T.1 + 1, if T.2.1 = e_n (-1) then e_n ((100 * p + c : Nat) : Nat) else T.2.1, fun j => if 30 * T.1 ≤ j ∧ j < 30 * T.1 + 30 then LB B (wiS B M n p c) n (j - 30 * T.1) else T.2.2 j) else T
def W0 : e_W := (0, e_n (-1), fun _ => e_n 0)
def inW (B : e_B) (M : Nat → Int32) (n : Nat) (w : Nat → Int32) (ns p : Nat) (T : e_W) : e_W := itr (fun c T => stW B M n w ns p c T) 10 0 T
def alW (B : e_B) (M : Nat → Int32) (n : Nat) (w : Nat → Int32) (ns : Nat) : e_W := itr (fun p T => inW B M n w ns p T) (bPe B) 0 W0
theorem stW_le {B : e_B} {M : Nat → Int32} {n : Nat} {w : Nat → Int32} {ns p c : Nat} {T : e_W} : (stW B M n w ns p c T).1 ≤ T.1 + 1 := by
  unfold stW; split
  · exact Nat.le_refl _
  · omega
/-- what the class's inquiry holds -/
def IvC (z : e_Z) (n : Nat) (I I' : Nat → Nat → Int32) (z' : e_Z) (T : e_W) : Prop :=
  CfE z I I' ∧ zs z z' ∧ z'.2.1.1 = z.2.1.1 ∧ I' 481 0 = e_n (T.1 : Nat) ∧ I' 481 1 = T.2.1 ∧ I' 481 2 = e_n (n : Nat) ∧ ∀ a, a < T.1 → ∀ i, i < n → I' 482 (30 * a + i) = T.2.2 (30 * a + i)
theorem c23h {d n N x : Nat} {I : Nat → Nat → Int32} {z : e_Z} {B : e_B} {S : e_T} (hn : n ≤ 30) (hN : N < 90) (hF : FC I B S n) (h0 : I 481 0 = e_n (N : Nat)) (h2 : I 481 2 = e_n (n : Nat)) :
    ∃ I', e_E (d + 3) 23 [.ref 481, .int (e_n (x : Nat)), .ref 470] (mk I z) = some (.inl none, mk I' z) ∧ I' 481 0 = e_n ((N + 1 : Nat) : Nat) ∧ I' 481 1 = (if I 481 1 = e_n (-1) then e_n (x : Nat) else I 481 1) ∧ I' 481 2 = e_n (n : Nat) ∧ (∀ j, I' 482 j = if 30 * N ≤ j ∧ j < 30 * N + n then LB B S n (j - 30 * N) else I 482 j) ∧ ∀ r, r ≠ 481 → r ≠ 482 → I' r = I r := by
  generalize hG : (if I 481 1 = e_n (-1) then e_u I 481 1 (e_n (x : Nat)) else I) = G
  have g0 : G 481 0 = e_n (N : Nat) := by
    rw [← hG]; split
    · rw [e_u_ne (by decide)]; exact h0
    · exact h0
  have g1 : G 481 1 = (if I 481 1 = e_n (-1) then e_n (x : Nat) else I 481 1) := by
    rw [← hG]; split
    · rw [e_u_same]
    · rfl
  have g2 : G 481 2 = e_n (n : Nat) := by
    rw [← hG]; split
    · rw [e_u_ne (by decide)]; exact h2
    · exact h2
  have gr : ∀ r, r ≠ 481 → G r = I r := by
    intro r hr
    rw [← hG]; split
    · exact e_u_na hr
    · rfl
  have loop : ∀ k i (K : Nat → Nat → Int32), i + k = n → K = upR G 482 (fun j => if 30 * N ≤ j ∧ j < 30 * N + i then LB B S n (j - 30 * N) else G 482 j) → e_L (d + 2) 23 15 [.ref 481, .int (e_n (x : Nat)), .ref 470, .int (e_n (i : Nat))] [] (mk K z) = some (.inl none, mk (e_u (upR G 482 (fun j => if 30 * N ≤ j ∧ j < 30 * N + n then LB B S n (j - 30 * N) else G 482 j)) 481 0 (e_n ((N + 1 : Nat) : Nat))) z) := by
    intro k
    induction k with
    | zero =>
      intro i K hi hK
      have : i = n := by omega
      subst this
      have k2 : K 481 2 = e_n (i : Nat) := by rw [hK, upR_ne (by decide)]; exact g2
      have k0 : K 481 0 = e_n (N : Nat) := by rw [hK, upR_ne (by decide)]; exact g0
      rw [C23_15, k2, if_neg (by rw [e_n_ltN (by omega) (by omega)]; omega), k0, e_n_succ, hK]
    | succ k ih =>
      intro i K hi hK
      have k2 : K 481 2 = e_n (n : Nat) := by rw [hK, upR_ne (by decide)]; exact g2
      have k0 : K 481 0 = e_n (N : Nat) := by rw [hK, upR_ne (by decide)]; exact g0
      have k7 : K 470 7 = e_n (n : Nat) := by rw [hK, upR_ne (by decide), gr 470 (by decide)]; exact hF.2.1
      have k480 : rd K 480 (e_n (i : Nat)) = LB B S n i := by
        have h30 : i < 30 := by omega
        rw [rd_N (r := 480) (k := i) h30, hK, upR_ne (by decide), gr 480 (by decide), (hF.2.2.2.2.2.2.2 i (by omega) h30).2]
        unfold LB; rw [if_pos (by omega)]
      have hix : e_n (N : Nat) * e_n 30 + e_n (i : Nat) = e_n ((30 * N + i : Nat) : Nat) := by rw [e_n_mul, e_n_add]; congr 1; omega
      have hl : 30 * N + i < ln 482 := by show 30 * N + i < 2700; omega
      rw [C23_15, k2, if_pos (by rw [e_n_ltN (by omega) (by omega)]; omega), k0, k7, if_pos (by rw [e_n_ltN (by omega) (by omega)]; omega), k480, hix, wr_N (r := 482) hl, e_n_succ]
      refine ih (i + 1) _ (by omega) ?_
      rw [hK, e_u_up, upR_up, upR_same]
      congr 1
      funext j
      by_cases h : j = 30 * N + i
      · subst h
        rw [if_pos rfl, if_pos (by omega), show 30 * N + i - 30 * N = i by omega]
      · rw [if_neg h]
        have : (30 * N ≤ j ∧ j < 30 * N + (i + 1)) = (30 * N ≤ j ∧ j < 30 * N + i) := by apply propext; omega
        simp only [this]
  refine ⟨e_u (upR G 482 (fun j => if 30 * N ≤ j ∧ j < 30 * N + n then LB B S n (j - 30 * N) else G 482 j)) 481 0 (e_n ((N + 1 : Nat) : Nat)), e_E_ret (d := d + 2) ?_, ?_, ?_, ?_, ?_, ?_⟩
  · show e_L (d + 2) 23 0 [.ref 481, .int (e_n (x : Nat)), .ref 470, .null] [] (mk I z) = _
    rw [C23_0, hG]
    exact loop n 0 G (by omega) (by rw [upR_id (by intro j; rw [if_neg (by omega)])])
  · rw [e_u_same]
  · rw [e_u_ne (by decide), upR_ne (by decide)]; exact g1
  · rw [e_u_ne (by decide), upR_ne (by decide)]; exact g2
  · intro j; rw [e_u_na (by decide), upR_same, gr 482 (by decide)]
  · intro r h1 h3; rw [e_u_na h1, upR_ne h3, gr r h1]
/-- one of the scribe's pairs, in the class -/
theorem wg_step {d t n ns p c : Nat} {I I' : Nat → Nat → Int32} {z z' : e_Z} {B : e_B} {T : e_W} (H : Rel I z B) (ht : t ≤ 60) (hd : I 515 0 = e_n (t : Nat)) (hn : min 30 (60 - t) = n) (h76 : I 489 76 = e_n (ns : Nat)) (hns : ns ≤ 8) (hp : p < bPe B) (hc : c < 10) (hT : T.1 ≤ 10 * p + c) (hI : IvC z n I I' z' T) :
    ∃ I2 z2, e_L (d + 6) 22 44 [.ref 481, .ref (bd z.2.1.1), .ref 50, .ref 470, .int (e_n (p : Nat)), .int (e_n (c : Nat))] [] (mk I' z') = e_L (d + 6) 22 44 [.ref 481, .ref (bd z.2.1.1), .ref 50, .ref 470, .int (e_n (p : Nat)), .int (e_n ((c + 1 : Nat) : Nat))] [] (mk I2 z2) ∧ IvC z n I I2 z2 (stW B (I 515) n (I 532) ns p c T) := by
  have wb := rel_wb H
  have wb4 : bPe B ≤ 9 := wb.2.2.2.1
  have hb := B2_bd z.2.1.1
  have hsc := bd_cases z
  obtain ⟨c1, c2, c3, c4, c5, c6, c7⟩ := hI
  have hn30 : n ≤ 30 := by omega
  have H' : Rel I' z' B := Rel_c c3 c1 H
  have h515 : I' 515 = I 515 := c1 515 (by unfold ScrC; omega)
  obtain ⟨J, a1, a2, a3, a4, a5, a6⟩ := c12h (d := d + 3) (I := I') (z := z') (s := z.2.1.1) wb (rel_wm H') (rel_mc H')
  rw [h515] at a2
  obtain ⟨K, b1, b2, b3, b4, b5, b6⟩ := ahead (I := I') (J := e_u (e_u J 470 4 (e_n (p : Nat))) 470 5 (e_n (c : Nat))) (d := d) (z := z') (many := 30) (sk := e_n (-1)) (cl := e_n (-1)) (sn := e_n (p : Nat)) (sm := e_n (c : Nat)) (t := t) wb (rel_wm H) (rel_bc H') (FC_fld (by decide) (FC_fld (by decide) a2)) (fun r hr => by rw [e_u_na (by omega), e_u_na (by omega)]; exact a6 r hr) (by omega) ht hd (fun i hi h => ⟨p, hp, rfl⟩) (by rw [e_u_ne (by decide), e_u_ne (by decide)]; exact a4 2 (by decide) (by decide)) (by rw [e_u_ne (by decide), e_u_ne (by decide)]; exact a4 3 (by decide) (by decide)) (by rw [e_u_ne (by decide), e_u_same]) (by rw [e_u_same])
  rw [hn, rn_sc hn30 (by omega) (by omega)] at b2 b3
  rw [hn, fl_sc hn30 (by omega) (by omega), e_u_ne (by decide), e_u_ne (by decide), a5] at b5
  have hz : zF z' z'.2.1.1 = zF z' z.2.1.1 := by rw [c3]
  rw [hz] at b1
  have hzs : zs z (zF z' z.2.1.1) := ⟨c2.1, c2.2⟩
  have hz3 : (zF z' z.2.1.1).2.1.1 = z.2.1.1 := c3
  have kC : ∀ r, ¬ ScrC z r → K r = I r := fun r hr => by
    have hr2 : r ≠ bd z'.2.1.1 + 10 ∧ r ≠ bd z'.2.1.1 + 11 ∧ (r < 470 ∨ 480 < r) := by rw [c3]; unfold ScrC at hr; omega
    rw [b6 r hr2.1 hr2.2.1 hr2.2.2, c1 r hr]
  have k481 : ∀ r, r = 481 ∨ r = 482 → K r = I' r := fun r hr => b6 r (by rw [c3]; omega) (by rw [c3]; omega) (by omega)
  have s1 : e_L (d + 6) 22 44 [.ref 481, .ref (bd z.2.1.1), .ref 50, .ref 470, .int (e_n (p : Nat)), .int (e_n (c : Nat))] [] (mk I' z') = e_L (d + 6) 22 78 [.ref 481, .ref (bd z.2.1.1), .ref 50, .ref 470, .int (e_n (p : Nat)), .int (e_n (c : Nat))] [] (mk K (zF z' z.2.1.1)) := by
    rw [C22_44 hb, if_pos (by rw [show (e_n 10) = e_n ((10 : Nat) : Nat) from rfl, e_n_ltN (by omega) (by omega)]; exact hc), a1, e_rV_n, C22_60 hb, show (e_n 30) = e_n ((30 : Nat) : Nat) from rfl, b1, e_rV_n]
  have same : okW B (I 515) n (I 532) ns p c = false → IvC z n I K (zF z' z.2.1.1) (stW B (I 515) n (I 532) ns p c T) := by
    intro h
    have : stW B (I 515) n (I 532) ns p c T = T := by unfold stW; rw [h]; rfl
    rw [this]
    exact ⟨kC, hzs, hz3, by rw [k481 481 (Or.inl rfl)]; exact c4, by rw [k481 481 (Or.inl rfl)]; exact c5, by rw [k481 481 (Or.inl rfl)]; exact c6, by rw [k481 482 (Or.inr rfl)]; exact c7⟩
  by_cases hw : wiF B (I 515) n p c = true
  · rw [if_pos hw] at b5
    have hse := rel_se H
    obtain ⟨ns', hns', s4, s76, hs⟩ := hse
    have hnn : ns' = ns := by
      have := s76.symm.trans h76
      rw [e_n_inj (by omega) (by omega) (by omega) (by omega)] at this; omega
    subst hnn
    have k532 : K 532 = I 532 := kC 532 (by unfold ScrC; omega)
    have e100 := c100h (d := d + 3) (z := zF z' z.2.1.1) (ns := ns') wb hn30 b2 (by rw [kC 50 (by unfold ScrC; omega)]; exact s4) hns' (by rw [kC 57 (by unfold ScrC; omega), kC 58 (by unfold ScrC; omega), kC 59 (by unfold ScrC; omega), k532]; exact hs)
    rw [k532] at e100
    by_cases ha : al (seC B (wiS B (I 515) n p c) n (I 532)) ns' 0 = true
    · have hok : okW B (I 515) n (I 532) ns' p c = true := by unfold okW; rw [hw, ha]; rfl
      have hN : T.1 < 90 := by omega
      obtain ⟨K2, g1, g2, g3, g4, g5, g6⟩ := c23h (d := d + 3) (x := 100 * p + c) (z := zF z' z.2.1.1) hn30 hN b2 (by rw [k481 481 (Or.inl rfl)]; exact c4) (by rw [k481 481 (Or.inl rfl)]; exact c6)
      have hst : stW B (I 515) n (I 532) ns' p c T = (T.1 + 1, if T.2.1 = e_n (-1) then e_n ((100 * p + c : Nat) : Nat) else T.2.1, fun j => if 30 * T.1 ≤ j ∧ j < 30 * T.1 + 30 then LB B (wiS B (I 515) n p c) n (j - 30 * T.1) else T.2.2 j) := by unfold stW; rw [if_pos hok]
      rw [hst]
      have hx : e_n 100 * e_n (p : Nat) + e_n (c : Nat) = e_n ((100 * p + c : Nat) : Nat) := by rw [e_n_mul, e_n_add]; congr 1
      refine ⟨K2, zF z' z.2.1.1, ?_, fun r hr => ?_, hzs, hz3, g2, ?_, g4, fun a ha2 i hi => ?_⟩
      · rw [s1, C22_78 hb, b5, if_neg (by decide), e100, e_rI_i, C22_90 hb, if_neg (by rw [tf_eq0]; exact fun q => q ha), hx, g1, e_rV_n, C22_106 hb, e_n_succ]
      · rw [g6 r (fun h => hr (by unfold ScrC; omega)) (fun h => hr (by unfold ScrC; omega)), kC r hr]
      · rw [g3, k481 481 (Or.inl rfl), c5]
      · rw [g5]
        have ha2 : a < T.1 + 1 := ha2
        by_cases haN : a = T.1
        · subst haN
          rw [if_pos (by omega)]
          show _ = if _ then _ else _
          rw [if_pos (by omega)]
        · rw [if_neg (by omega), k481 482 (Or.inr rfl), c7 a (by omega) i hi]
          show _ = if _ then _ else _
          rw [if_neg (by omega)]
    · have hok : okW B (I 515) n (I 532) ns' p c = false := by unfold okW; rw [hw, Bool.true_and]; simpa using ha
      refine ⟨K, zF z' z.2.1.1, ?_, same hok⟩
      rw [s1, C22_78 hb, b5, if_neg (by decide), e100, e_rI_i, C22_90 hb, if_pos (by rw [tf_eq0]; exact ha), e_n_succ]
  · rw [if_neg hw] at b5
    have hok : okW B (I 515) n (I 532) ns p c = false := by unfold okW; rw [show wiF B (I 515) n p c = false from by simpa using hw]; rfl
    refine ⟨K, zF z' z.2.1.1, ?_, same hok⟩
    rw [s1, C22_78 hb, b5, if_pos (by decide), e_n_succ]
/-- all of them -/
theorem c22h {d t n ns : Nat} {I : Nat → Nat → Int32} {z : e_Z} {B : e_B} (H : Rel I z B) (ht : t ≤ 60) (hd : I 515 0 = e_n (t : Nat)) (hn : min 30 (60 - t) = n) (h76 : I 489 76 = e_n (ns : Nat)) (hns : ns ≤ 8) :
    ∃ I2 z2, e_E (d + 7) 22 [.ref 481, .ref (bd z.2.1.1), .ref 50, .ref 470] (mk I z) = some (.inl none, mk I2 z2) ∧ IvC z n I I2 z2 (alW B (I 515) n (I 532) ns) ∧ (alW B (I 515) n (I 532) ns).1 ≤ 90 := by
  have wb4 : bPe B ≤ 9 := (rel_wb H).2.2.2.1
  have hb := B2_bd z.2.1.1
  have hsc := bd_cases z
  have hinner : ∀ p, p < bPe B → ∀ k c T I' z', c + k = 10 → T.1 ≤ 10 * p + c → IvC z n I I' z' T → ∃ I2 z2, e_L (d + 6) 22 44 [.ref 481, .ref (bd z.2.1.1), .ref 50, .ref 470, .int (e_n (p : Nat)), .int (e_n (c : Nat))] [] (mk I' z') = e_L (d + 6) 22 32 [.ref 481, .ref (bd z.2.1.1), .ref 50, .ref 470, .int (e_n ((p + 1 : Nat) : Nat)), .int (e_n 10)] [] (mk I2 z2) ∧ IvC z n I I2 z2 (itr (fun c T => stW B (I 515) n (I 532) ns p c T) k c T) ∧ (itr (fun c T => stW B (I 515) n (I 532) ns p c T) k c T).1 ≤ 10 * (p + 1) := by
    intro p hp k
    induction k with
    | zero =>
      intro c T I' z' hc hT hI
      have : c = 10 := by omega
      subst this
      refine ⟨I', z', ?_, hI, by show T.1 ≤ _; omega⟩
      rw [C22_44 hb, if_neg (by decide), e_n_succ]; rfl
    | succ k ih =>
      intro c T I' z' hc hT hI
      obtain ⟨I2, z2, a1, a2⟩ := wg_step (d := d) H ht hd hn h76 hns hp (by omega) hT hI
      obtain ⟨I3, z3, b1, b2, b3⟩ := ih (c + 1) (stW B (I 515) n (I 532) ns p c T) I2 z2 (by omega) (by have := stW_le (B := B) (M := I 515) (n := n) (w := I 532) (ns := ns) (p := p) (c := c) (T := T); omega) a2
      exact ⟨I3, z3, a1.trans b1, b2, b3⟩
  have houter : ∀ k p T I' z' (u : Value), p + k = bPe B → T.1 ≤ 10 * p → IvC z n I I' z' T → ∃ I2 z2, e_L (d + 6) 22 32 [.ref 481, .ref (bd z.2.1.1), .ref 50, .ref 470, .int (e_n (p : Nat)), u] [] (mk I' z') = some (.inl none, mk I2 z2) ∧ IvC z n I I2 z2 (itr (fun p T => inW B (I 515) n (I 532) ns p T) k p T) ∧ (itr (fun p T => inW B (I 515) n (I 532) ns p T) k p T).1 ≤ 10 * bPe B := by
    intro k
    induction k with
    | zero =>
      intro p T I' z' u hp hT hI
      have hpe : I' (bd z.2.1.1) 6 = e_n (bPe B : Nat) := by rw [hI.1 _ (by unfold ScrC; omega)]; exact (rel_bc H).2.2.2.1
      refine ⟨I', z', ?_, hI, by show T.1 ≤ _; omega⟩
      rw [C22_32 hb, hpe, if_neg (by rw [e_n_ltN (by omega) (by omega)]; omega)]
    | succ k ih =>
      intro p T I' z' u hp hT hI
      have hpe : I' (bd z.2.1.1) 6 = e_n (bPe B : Nat) := by rw [hI.1 _ (by unfold ScrC; omega)]; exact (rel_bc H).2.2.2.1
      obtain ⟨I2, z2, a1, a2, a3⟩ := hinner p (by omega) 10 0 T I' z' (by omega) (by omega) hI
      obtain ⟨I3, z3, b1, b2, b3⟩ := ih (p + 1) (inW B (I 515) n (I 532) ns p T) I2 z2 (.int (e_n 10)) (by omega) a3 a2
      refine ⟨I3, z3, ?_, b2, b3⟩
      rw [C22_32 hb, hpe, if_pos (by rw [e_n_ltN (by omega) (by omega)]; omega), show (e_n 0) = e_n ((0 : Nat) : Nat) from rfl, a1]
      exact b1
  have hda : I 51 0 = e_n (t : Nat) := by rw [(rel_mc H).1]; exact hd
  have hmn : e_min (e_n 30) (e_n 60 - I 51 0) = e_n (n : Nat) := by
    rw [hda, show e_n 60 - e_n (t : Nat) = e_n ((60 - t : Nat) : Nat) from by rw [e_n_sub]; congr 1; omega, show (e_n 30) = e_n ((30 : Nat) : Nat) from rfl, e_min_n (by omega) (by omega), hn]
  obtain ⟨I2, z2, a1, a2, a3⟩ := houter (bPe B) 0 W0 (e_u (e_u (e_u I 481 0 (e_n 0)) 481 1 (e_n (-1))) 481 2 (e_n (n : Nat))) z .null (by omega) (Nat.zero_le _) ⟨fun r hr => by rw [e_u_na (fun h => hr (by unfold ScrC; omega)), e_u_na (fun h => hr (by unfold ScrC; omega)), e_u_na (fun h => hr (by unfold ScrC; omega))], zs_rf z, rfl, by rw [e_u_ne (by decide), e_u_ne (by decide), e_u_same]; rfl, by rw [e_u_ne (by decide), e_u_same]; rfl, by rw [e_u_same], fun a ha => absurd ha (Nat.not_lt_zero a)⟩
  refine ⟨I2, z2, e_E_ret (d := d + 6) ?_, a2, by have : (alW B (I 515) n (I 532) ns).1 ≤ 10 * bPe B := a3; omega⟩
  show e_L (d + 6) 22 0 [.ref 481, .ref (bd z.2.1.1), .ref 50, .ref 470, .null, .null] [] (mk I z) = _
  rw [C22_0 hb, hmn]
  exact a1
end S95
