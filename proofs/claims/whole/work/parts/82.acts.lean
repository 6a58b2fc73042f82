/-! acts, face to face: write, strike, open, go -/
section S82
theorem wr_NM {I : Nat → Nat → Int32} {r k : Nat} {v : Int32} (h : k < ln r) : wr I r (e_n (k : Nat)) v = e_u I r k v := wr_N h
/-- a name written by hand -/
theorem MoC_ent {I : Nat → Nat → Int32} {B : e_B} {M : Nat → Int32} {p : Nat} {v : Int32} (wb : WB B) (wm : WM B M) (hp : p < bPe B) (H : MoC I 51 B M) : MoC (e_u (e_u (e_u I 51 1 (I 51 1 ||| e_shl (e_n 1) (e_n (p : Nat)))) 52 p (I 51 0)) 53 p v) 51 B (entS (fun _ => M) p v 0) := by
  have wb4 : bPe B ≤ 9 := wb.2.2.2.1
  obtain ⟨⟨t, ht, hday, -⟩, -⟩ := wm
  obtain ⟨m0, m1, m2, m3, m4, m5, m6, m7⟩ := H
  have hl : lm B (entS (fun _ => M) p v 0) = lm B M ||| e_shl (e_n 1) (e_n (p : Nat)) := lm_ent wb4 hp (by rw [ent0, if_neg (by omega), if_pos rfl, hday]; exact e_n_neg1 (by omega)) (fun j hj hjp => by rw [ent0, if_neg (by omega), if_neg (by omega)])
  have es : ∀ j, j < 4 → entS (fun _ => M) p v 0 j = M j := fun j hj => by rw [ent0, if_neg (by omega), if_neg (by omega)]
  refine ⟨?_, ?_, ?_, ?_, ?_, ?_, ?_, ?_⟩
  · rw [es 0 (by decide)]; simp (disch := decide) only [e_u_na, e_u_ne]; exact m0
  · rw [hl]; simp (disch := decide) only [e_u_na, e_u_same]; rw [m1]
  · rw [es 1 (by decide)]; simp (disch := decide) only [e_u_na, e_u_ne]; exact m2
  · rw [es 2 (by decide)]; simp (disch := decide) only [e_u_na, e_u_ne]; exact m3
  · rw [es 3 (by decide)]; simp (disch := decide) only [e_u_na, e_u_ne]; exact m4
  · intro j hj
    rw [ent0, ent0, ent0, if_neg (show ¬ 4 + j = 13 + p by omega), if_neg (show ¬ 13 + j = 4 + p by omega), if_neg (show ¬ 22 + j = 13 + p by omega), if_neg (show ¬ 22 + j = 4 + p by omega)]
    simp (disch := decide) only [e_u_na, e_u_at]
    refine ⟨?_, ?_, (m5 j hj).2.2⟩
    · by_cases hjp : j = p
      · rw [if_pos hjp, if_pos (by omega)]; exact m0
      · rw [if_neg hjp, if_neg (by omega)]; exact (m5 j hj).1
    · by_cases hjp : j = p
      · rw [if_pos hjp, if_pos (by omega)]
      · rw [if_neg hjp, if_neg (by omega)]; exact (m5 j hj).2.1
  · intro j hj hj9
    simp (disch := decide) only [e_u_na, e_u_at]
    rw [if_neg (by omega)]; exact m6 j hj hj9
  · intro j hj
    rw [ent0, if_neg (by omega), if_neg (by omega)]
    simp (disch := decide) only [e_u_na]; exact m7 j hj
/-- struck off -/
def strS (M : Nat → Int32) (p : Nat) : Nat → Int32 := fun j => if j = 4 + p ∨ j = 13 + p then e_n (-1) else M j
theorem MoC_str {I : Nat → Nat → Int32} {B : e_B} {M : Nat → Int32} {p : Nat} (wb : WB B) (hp : p < bPe B) (H : MoC I 51 B M) : MoC (e_u (e_u (e_u I 51 1 (I 51 1 &&& (e_shl (e_n 1) (e_n (p : Nat)) ^^^ e_n (-1)))) 52 p (e_n (-1))) 53 p (e_n (-1))) 51 B (strS M p) := by
  have wb4 : bPe B ≤ 9 := wb.2.2.2.1
  obtain ⟨m0, m1, m2, m3, m4, m5, m6, m7⟩ := H
  have es : ∀ j, ¬ (j = 4 + p ∨ j = 13 + p) → strS M p j = M j := fun j hj => if_neg hj
  have e4 : strS M p (4 + p) = e_n (-1) := if_pos (Or.inl rfl)
  have e13 : strS M p (13 + p) = e_n (-1) := if_pos (Or.inr rfl)
  have hl : lm B (strS M p) = lm B M &&& (e_shl (e_n 1) (e_n (p : Nat)) ^^^ e_n (-1)) := by
    apply bt_ext
    intro i hi
    rw [bt_and, bt_not _ hi, bt_bit (by omega), bt_lm wb4, bt_lm wb4]
    by_cases hip : i = p
    · subst hip; rw [e4]; simp
    · by_cases hl : i < bPe B
      · rw [es (4 + i) (by omega)]; simp [hip]
      · simp [hl]
  refine ⟨?_, ?_, ?_, ?_, ?_, ?_, ?_, ?_⟩
  · rw [es 0 (by omega)]; simp (disch := decide) only [e_u_na, e_u_ne]; exact m0
  · rw [hl]; simp (disch := decide) only [e_u_na, e_u_same]; rw [m1]
  · rw [es 1 (by omega)]; simp (disch := decide) only [e_u_na, e_u_ne]; exact m2
  · rw [es 2 (by omega)]; simp (disch := decide) only [e_u_na, e_u_ne]; exact m3
  · rw [es 3 (by omega)]; simp (disch := decide) only [e_u_na, e_u_ne]; exact m4
  · intro j hj
    rw [es (22 + j) (by omega)]
    simp (disch := decide) only [e_u_na, e_u_at]
    refine ⟨?_, ?_, (m5 j hj).2.2⟩
    · by_cases hjp : j = p
      · subst hjp; rw [if_pos rfl, e4]
      · rw [if_neg hjp, es (4 + j) (by omega)]; exact (m5 j hj).1
    · by_cases hjp : j = p
      · subst hjp; rw [if_pos rfl, e13]
      · rw [if_neg hjp, es (13 + j) (by omega)]; exact (m5 j hj).2.1
  · intro j hj hj9
    simp (disch := decide) only [e_u_na, e_u_at]
    rw [if_neg (by omega)]; exact m6 j hj hj9
  · intro j hj
    rw [es (31 + j) (by omega)]
    simp (disch := decide) only [e_u_na]; exact m7 j hj
theorem wm_str {B : e_B} {M : Nat → Int32} {p : Nat} (wb : WB B) (hp : p < bPe B) (h : WM B M) : WM B (strS M p) := by
  have wb4 : bPe B ≤ 9 := wb.2.2.2.1
  obtain ⟨⟨t, ht, h0, h1⟩, h2, h3, h4, h5, h6, h7⟩ := h
  have es : ∀ j, ¬ (j = 4 + p ∨ j = 13 + p) → strS M p j = M j := fun j hj => if_neg hj
  have e4 : strS M p (4 + p) = e_n (-1) := if_pos (Or.inl rfl)
  have e13 : strS M p (13 + p) = e_n (-1) := if_pos (Or.inr rfl)
  refine ⟨⟨t, ht, by rw [es 0 (by omega)]; exact h0, ?_⟩, ?_, ?_, by rw [es 3 (by omega)]; exact h4, ?_, by rw [es 1 (by omega)]; exact h6, by rw [es 1 (by omega), es 2 (by omega)]; exact h7⟩
  · intro q hq
    by_cases hqp : q = p
    · subst hqp; exact Or.inl e4
    · rw [es (4 + q) (by omega)]; exact h1 q hq
  · intro q hq; rw [es (22 + q) (by omega)]; exact h2 q hq
  · intro q hq
    by_cases hqp : q = p
    · subst hqp; exact Or.inl e13
    · rw [es (13 + q) (by omega)]; exact h3 q hq
  · intro m hm; rw [es (31 + m) (by omega)]; exact h5 m hm
/-- opened, closed -/
theorem MoC_opn {I : Nat → Nat → Int32} {B : e_B} {M : Nat → Int32} {v : Int32} (wb : WB B) (H : MoC I 51 B M) : MoC (e_u I 51 4 v) 51 B (fun j => if j = 3 then v else M j) := by
  obtain ⟨m0, m1, m2, m3, m4, m5, m6, m7⟩ := H
  have es : ∀ j, j ≠ 3 → (fun j => if j = 3 then v else M j) j = M j := fun j hj => if_neg hj
  have hl : lm B (fun j => if j = 3 then v else M j) = lm B M := by
    unfold lm; apply itr_congr; intro i s hi; rw [es (4 + i) (by omega)]
  refine ⟨?_, ?_, ?_, ?_, ?_, ?_, ?_, ?_⟩
  · simp (disch := decide) only [e_u_ne]; exact m0
  · rw [hl]; simp (disch := decide) only [e_u_ne]; exact m1
  · simp (disch := decide) only [e_u_ne]; exact m2
  · simp (disch := decide) only [e_u_ne]; exact m3
  · rw [e_u_same]; rfl
  · intro j hj
    rw [es (4 + j) (by omega), es (13 + j) (by omega), es (22 + j) (by omega)]
    simp (disch := decide) only [e_u_na]; exact m5 j hj
  · simp (disch := decide) only [e_u_na]; exact m6
  · intro j hj
    rw [es (31 + j) (by omega)]
    simp (disch := decide) only [e_u_na]; exact m7 j hj
theorem wm_opn {B : e_B} {M : Nat → Int32} {v : Int32} (hv : v = e_n 0 ∨ v = e_n 1) (h : WM B M) : WM B (fun j => if j = 3 then v else M j) := by
  obtain ⟨⟨t, ht, h0, h1⟩, h2, h3, h4, h5, h6, h7⟩ := h
  have es : ∀ j, j ≠ 3 → (fun j => if j = 3 then v else M j) j = M j := fun j hj => if_neg hj
  exact ⟨⟨t, ht, h0, fun q hq => by rw [es (4 + q) (by omega)]; exact h1 q hq⟩, fun q hq => by rw [es (22 + q) (by omega)]; exact h2 q hq, fun q hq => by rw [es (13 + q) (by omega)]; exact h3 q hq, hv, fun q hq => by rw [es (31 + q) (by omega)]; exact h5 q hq, h6, h7⟩
/-- gone -/
theorem MoC_go {I : Nat → Nat → Int32} {B : e_B} {M : Nat → Int32} {p : Nat} {v : Int32} (wb : WB B) (hp : p < bPe B) (H : MoC I 51 B M) : MoC (e_u I 54 p v) 51 B (fun j => if j = 22 + p then v else M j) := by
  have wb1 : bMa B ≤ 3 := wb.1
  have wb4 : bPe B ≤ 9 := wb.2.2.2.1
  obtain ⟨m0, m1, m2, m3, m4, m5, m6, m7⟩ := H
  have es : ∀ j, j ≠ 22 + p → (fun j => if j = 22 + p then v else M j) j = M j := fun j hj => if_neg hj
  have hl : lm B (fun j => if j = 22 + p then v else M j) = lm B M := by
    unfold lm; apply itr_congr; intro i s hi; rw [es (4 + i) (by omega)]
  refine ⟨?_, ?_, ?_, ?_, ?_, ?_, ?_, ?_⟩
  · rw [es 0 (by omega)]; simp (disch := decide) only [e_u_na]; exact m0
  · rw [hl]; simp (disch := decide) only [e_u_na]; exact m1
  · rw [es 1 (by omega)]; simp (disch := decide) only [e_u_na]; exact m2
  · rw [es 2 (by omega)]; simp (disch := decide) only [e_u_na]; exact m3
  · rw [es 3 (by omega)]; simp (disch := decide) only [e_u_na]; exact m4
  · intro j hj
    rw [es (4 + j) (by omega), es (13 + j) (by omega)]
    simp (disch := decide) only [e_u_na, e_u_at]
    refine ⟨(m5 j hj).1, (m5 j hj).2.1, ?_⟩
    by_cases hjp : j = p
    · rw [if_pos hjp, if_pos (by omega)]
    · rw [if_neg hjp, if_neg (by omega)]; exact (m5 j hj).2.2
  · simp (disch := decide) only [e_u_na]; exact m6
  · intro j hj
    rw [es (31 + j) (by omega)]
    simp (disch := decide) only [e_u_na]; exact m7 j hj
theorem wm_go {B : e_B} {M : Nat → Int32} {p : Nat} {v : Int32} (wb : WB B) (hp : p < bPe B) (hv : ∃ a : Nat, a < bPl B ∧ v = e_n (a : Nat)) (h : WM B M) : WM B (fun j => if j = 22 + p then v else M j) := by
  have wb4 : bPe B ≤ 9 := wb.2.2.2.1
  obtain ⟨⟨t, ht, h0, h1⟩, h2, h3, h4, h5, h6, h7⟩ := h
  have es : ∀ j, j ≠ 22 + p → (fun j => if j = 22 + p then v else M j) j = M j := fun j hj => if_neg hj
  refine ⟨⟨t, ht, by rw [es 0 (by omega)]; exact h0, fun q hq => by rw [es (4 + q) (by omega)]; exact h1 q hq⟩, ?_, fun q hq => by rw [es (13 + q) (by omega)]; exact h3 q hq, by rw [es 3 (by omega)]; exact h4, fun q hq => by rw [es (31 + q) (by omega)]; exact h5 q hq, by rw [es 1 (by omega)]; exact h6, by rw [es 1 (by omega), es 2 (by omega)]; exact h7⟩
  intro q hq
  by_cases hqp : q = p
  · subst hqp; simp only [if_true]; exact hv
  · rw [es (22 + q) (by omega)]; exact h2 q hq
theorem CSt_now {I I' : Nat → Nat → Int32} {B : e_B} {M M' : Nat → Int32} {n : Nat} {A : Nat → Nat → Int32} (H : CSt I 50 B M n A) (hM : MoC I' 51 B M') (h0 : I' 50 = I 50) (h : ∀ r, 60 ≤ r → r < 260 → I' r = I r) : CSt I' 50 B M' n A := by
  obtain ⟨a1, o, ho, a2, a3, a4⟩ := H
  refine ⟨hM, o, ho, by rw [h0]; exact a2, by rw [h0]; exact a3, fun k hk => MoC_fr (fun j hj => h _ (by omega) ?_) (a4 k hk)⟩
  have := Nat.mod_lt (o + k) (show 0 < 40 by decide)
  omega
/-- a class call that keeps a row first, a reference call that does, then both write now anew -/
theorem act_face {d y y' : Nat} {c1 : Int32} {as : List Value} {I : Nat → Nat → Int32} {z : e_Z} {B : e_B} {v : Int32} {M' : Nat → Int32} (H : Rel I z B) (wm' : WM B M')
    (hc : ∀ I1, e_E (d + 9) 97 [.ref 50] (mk I z) = some (.inl none, mk I1 z) → MoC I1 51 B (I 515) → CAf 50 I I1 → ∃ I2, e_E (d + 10) y (.ref 1 :: as) (mk I z) = some (.inl (some (.int v)), mk I2 z) ∧ MoC I2 51 B M' ∧ ∀ r, ¬ (51 ≤ r ∧ r ≤ 55) → I2 r = I1 r)
    (hr : ∀ (J K : Nat → Nat → Int32) (z2 : e_Z), (∀ s, 489 ≤ s → J s = I s) → RB (e_u J 489 0 (e_n 0)) B → e_E (d + 9) 218 [.ref 489] (mk (e_u J 489 0 (e_n 0)) z2) = some (.inl none, mk K z2) → (∀ r, r ≠ 489 → r ≠ 516 → K r = J r) → (∀ j, j ≠ 56 → K 489 j = e_u J 489 0 (e_n 0) 489 j) → ∃ I2, e_E (d + 10) y' (.ref 489 :: as) (mk J z2) = some (.inl (some (.int v)), mk I2 z2) ∧ (∀ j, j < 34 → I2 515 j = M' j) ∧ (∀ r, r ≠ 515 → I2 r = K r)) : Face d c1 I z y y' as := by
  obtain ⟨n, hn, h56, hcs, hwa⟩ := rel_cs H
  have wb := rel_wb H
  have wm := rel_wm H
  obtain ⟨I1, e1, e2, e3⟩ := c97h (d := d + 6) (z := z) T2_50 wb wm hcs hn
  obtain ⟨I2, g1, g2, g3⟩ := hc I1 e1 e2.1 e3
  refine ⟨.inl v, I2, z, zs_rf z, g1, fun z2 hz => ?_⟩
  have q : ∀ s, 489 ≤ s → I2 s = I s := fun s hs => by rw [g3 s (by omega), e3.1 s (by omega) (by omega)]
  have rb : RB (e_u I2 489 0 (e_n 0)) B := RB_0 (RB_fr (fun k _ _ => by rw [q 489 (by omega)]) (fun r h1 _ => q r (by omega)) (rel_rb H))
  obtain ⟨K, k1, k2, k3, k4, k5⟩ := c218h (d := d + 8) (I := e_u I2 489 0 (e_n 0)) (z := z2) (M := I 515) (A := fun k j => I 516 (34 * k + j)) (n := n) (fun j _ => by rw [K515 (by decide), q 515 (by decide)]) (by rw [e_u_ne (by decide), q 489 (by decide)]; exact h56) hn (fun k _ j _ => by rw [K515 (by decide), q 516 (by decide)])
  obtain ⟨I3, f1, f2, f3⟩ := hr I2 K z2 q rb k1 (fun r h1 h2 => by rw [k4 r h1 h2, e_u_na h1]) k5
  refine ⟨I3, B, v, f1, ?_, ?_, rfl⟩
  · refine act_end (I1 := I2) (M := M') (n := kn n) (A := kA n (I 515) (fun k j => I 516 (34 * k + j))) H (by rw [hz]) (CSt_now e2 g2 (g3 50 (by omega)) (fun r _ _ => g3 r (by omega))) ?_ ?_ (kn_le hn) wm' (wm_kA wm hwa hn) f2 ?_ ?_ ?_ ?_
    · intro r h1 h2 h3 _
      rw [g3 r h2, e3.1 r h1 (by omega)]
    · rw [g3 50 (by omega), e3.2 4 (by decide) (by decide)]
    · rw [f3 489 (by decide)]; exact k2
    · rw [f3 516 (by decide)]; exact k3
    · intro r h1 h2 h3 _
      rw [f3 r h2, k4 r h1 h3, e_u_na h1]
    · intro j h1 h2
      rw [f3 489 (by decide), k5 j h1, e_u_ne (fun e => h2 (by rw [e]; exact Or.inl rfl))]
  · rw [f3 489 (by decide), k5 0 (by decide), e_u_same]
/-- refused by both -/
theorem refuse_face {d y y' k : Nat} {c1 : Int32} {as : List Value} {I : Nat → Nat → Int32} {z : e_Z} {B : e_B} {v : Int32} (H : Rel I z B) (hk : k < 3)
    (hc : e_E (d + 10) y (.ref 1 :: as) (mk I z) = some (.inl (some (.int v)), mk (e_u I 3 k (I 3 k + e_n 1)) z))
    (hr : ∀ (J : Nat → Nat → Int32) (z2 : e_Z), (∀ s, 489 ≤ s → J s = I s) → RB (e_u J 489 0 (e_n 0)) B → e_E (d + 10) y' (.ref 489 :: as) (mk J z2) = some (.inl (some (.int v)), mk (e_u (e_u J 489 0 (e_n 0)) 501 k (J 501 k + e_n 1)) z2)) : Face d c1 I z y y' as := by
  refine ⟨.inl v, _, z, zs_rf z, hc, fun z2 hz => ?_⟩
  have q : ∀ s, 489 ≤ s → e_u I 3 k (I 3 k + e_n 1) s = I s := fun s hs => e_u_na (by omega)
  have rb : RB (e_u (e_u I 3 k (I 3 k + e_n 1)) 489 0 (e_n 0)) B := RB_0 (RB_fr (fun k _ _ => by rw [q 489 (by omega)]) (fun r h1 _ => q r (by omega)) (rel_rb H))
  refine ⟨_, B, v, hr _ z2 q rb, ?_, ?_, rfl⟩
  · refine ref_end H (by rw [hz]) hk ?_ ?_ ?_ ?_
    · rw [e_u_na (by decide), e_u_na (by decide)]
    · funext j
      simp (disch := decide) only [e_u_na, e_u_at]
    · intro r h1 h2 h3
      rw [e_u_na h3, e_u_na h1, e_u_na h2]
    · intro j hj
      rw [e_u_na (by decide), e_u_ne (fun e => hj (by rw [e]; exact Or.inl rfl)), e_u_na (by decide)]
  · rw [e_u_na (by decide), e_u_same]
theorem w3_1 {I : Nat → Nat → Int32} : wr I 3 (e_n 1) (rd I 3 (e_n 1) + e_n 1) = e_u I 3 1 (I 3 1 + e_n 1) := wr3 (k := 1) (by decide)
theorem w3_2 {I : Nat → Nat → Int32} : wr I 3 (e_n 2) (rd I 3 (e_n 2) + e_n 1) = e_u I 3 2 (I 3 2 + e_n 1) := wr3 (k := 2) (by decide)
theorem nn1 : (e_n 1).toNatClampNeg = 1 := by decide
theorem nn2 : (e_n 2).toNatClampNeg = 2 := by decide
/-- refusals of the reference: one of its own, status k -/
theorem c219k {d : Nat} {J : Nat → Nat → Int32} {z : e_Z} : e_E (d + 1) 219 [.ref 489, .int (e_n 1)] (mk (e_u J 489 0 (e_n 0)) z) = some (.inl (some (.int (e_n (-1)))), mk (e_u (e_u J 489 0 (e_n 0)) 501 1 (J 501 1 + e_n 1)) z) := by
  rw [c219 (InR_n (a := 1) (by decide) (by decide) (by decide)), nn1, e_u_na (show (501 : Nat) ≠ 489 by decide)]
/-- calls of one whom no board tells: both throw -/
theorem throw_p {d y y' : Nat} {c1 : Int32} {as : List Value} {I : Nat → Nat → Int32} {z : e_Z} {B : e_B} (H : Rel I z B) (hc : e_E (d + 10) y (.ref 1 :: as) (mk I z) = some (.inr 0, mk I (zx z)))
    (hr : ∀ (J : Nat → Nat → Int32) (z2 : e_Z), Rel J z2 B → ∃ b, e_E (d + 10) y' (.ref 489 :: as) (mk J z2) = some (.inl (some (.int b)), mk (e_u (e_u J 489 0 (e_n 0)) 489 0 (e_n 1)) z2)) : Face d c1 I z y y' as := by
  refine face_rd H (r := .inr 0) (I1 := I) (zs_rf z) rfl hc (fun _ _ => rfl) ?_
  intro J z2 HJ hq
  obtain ⟨b, hb⟩ := hr J z2 HJ
  exact ⟨_, b, hb, RfE_tr RfE_0 RfE_0, e_u_same⟩
theorem throw_q {d y y' : Nat} {c1 : Int32} {as : List Value} {I : Nat → Nat → Int32} {z : e_Z} {B : e_B} (H : Rel I z B) (hc : e_E (d + 10) y (.ref 1 :: as) (mk I z) = some (.inr 1, mk I (zx z)))
    (hr : ∀ (J : Nat → Nat → Int32) (z2 : e_Z), Rel J z2 B → ∃ b, e_E (d + 10) y' (.ref 489 :: as) (mk J z2) = some (.inl (some (.int b)), mk (e_u (e_u J 489 0 (e_n 0)) 489 0 c1) z2)) : Face d c1 I z y y' as := by
  refine face_rd H (r := .inr 1) (I1 := I) (zs_rf z) rfl hc (fun _ _ => rfl) ?_
  intro J z2 HJ hq
  obtain ⟨b, hb⟩ := hr J z2 HJ
  exact ⟨_, b, hb, RfE_tr RfE_0 RfE_0, e_u_same⟩
theorem F129 {d : Nat} {c1 : Int32} {I : Nat → Nat → Int32} {z : e_Z} {B : e_B} (H : Rel I z B) {x : Int32} : Face d c1 I z 129 255 [.int x] := by
  have wb := rel_wb H
  have wb4 : bPe B ≤ 9 := wb.2.2.2.1
  have hpc := (rel_bc H).2.2.2.1
  by_cases hm : x < 0 ∨ ¬ x < e_n (bPe B : Nat)
  · refine throw_p H ?_ ?_
    · refine (e_E_11 (d := d + 9) (y := 129) rfl).trans ?_
      show e_L (d + 9) 129 0 [.ref 1, .int x] [] (mk I z) = _
      rw [C129_0, hpc, if_pos hm]; rfl
    · intro J z2 HJ
      refine ⟨e_n 0, e_E_ret (d := d + 9) ?_⟩
      show e_L (d + 9) 255 0 [.ref 489, .int x] [] (mk J z2) = _
      rw [C255_0, c245n (RB_0 (rel_rb HJ)) K0 hm, e_rI_i, C255_10 (fun h => absurd (by decide) h), if_pos (by decide)]
  obtain ⟨p, hp, rfl⟩ := in_n (by omega) hm
  have hli : I 51 1 = lm B (I 515) := (rel_mc H).2.1
  have i4 : (e_n 4 + e_n (p : Nat)).toNatClampNeg = 4 + p := ix (a := 4) (by omega)
  have i13 : (e_n 13 + e_n (p : Nat)).toNatClampNeg = 13 + p := ix (a := 13) (by omega)
  have h9 : p < 9 := by omega
  by_cases hl : I 515 (4 + p) = e_n (-1)
  · refine act_face H (M' := entS (fun _ => I 515) p (e_n (-2)) 0) (v := e_n 1) (wm_ent (S := fun _ => I 515) wb4 (rel_wm H) hp (Or.inl rfl)) ?_ ?_
    · intro I1 e1 hM1 hA
      refine ⟨_, e_E_ret (d := d + 9) ?_, MoC_ent (v := e_n (-2)) wb (rel_wm H) hp hM1, ?_⟩
      · show e_L (d + 9) 129 0 [.ref 1, .int (e_n (p : Nat))] [] (mk I z) = _
        rw [C129_0, hpc, if_neg hm, hli, if_pos ((lbit wb4 hp).mpr hl), e1, e_rV_n, C129_36, wr_N (r := 51 + 1) (k := p) h9, wr_N (r := 51 + 2) (k := p) h9]
      · intro r hr
        rw [e_u_na (by omega), e_u_na (by omega), e_u_na (by omega)]
    · intro J K z2 hq rb k1 k4 k5
      have hJ : e_u J 489 0 (e_n 0) 515 (4 + p) = e_n (-1) := by rw [K515 (by decide), hq 515 (by decide)]; exact hl
      refine ⟨e_u (e_u K 515 (4 + p) (K 515 0)) 515 (13 + p) (e_n (-2)), e_E_ret (d := d + 9) ?_, ?_, ?_⟩
      · show e_L (d + 9) 255 0 [.ref 489, .int (e_n (p : Nat))] [] (mk J z2) = _
        rw [C255_0, c245y rb K0 hm, e_rI_i, C255_10 (fun _ => ixI (a := 4) (by omega) (by decide)), if_neg (by decide), i4, if_pos hJ, k1, e_rV_n, C255_45 (ixI (a := 4) (by omega) (by decide)) (ixI (a := 13) (by omega) (by decide)), i4, i13]
      · intro j hj
        rw [ent0, e_u_at, e_u_at, k4 515 (by decide) (by decide), hq 515 (by decide)]
      · intro r hr
        rw [e_u_na hr, e_u_na hr]
  · refine refuse_face H (k := 1) (v := e_n 0) (by decide) (e_E_ret (d := d + 9) ?_) ?_
    · show e_L (d + 9) 129 0 [.ref 1, .int (e_n (p : Nat))] [] (mk I z) = _
      rw [C129_0, hpc, if_neg hm, hli, if_neg (fun h => hl ((lbit wb4 hp).mp h)), w3_1]
    · intro J z2 hq rb
      refine e_E_ret (d := d + 9) ?_
      show e_L (d + 9) 255 0 [.ref 489, .int (e_n (p : Nat))] [] (mk J z2) = _
      have hJ : ¬ e_u J 489 0 (e_n 0) 515 (4 + p) = e_n (-1) := by rw [K515 (by decide), hq 515 (by decide)]; exact hl
      rw [C255_0, c245y rb K0 hm, e_rI_i, C255_10 (fun _ => ixI (a := 4) (by omega) (by decide)), if_neg (by decide), i4, if_neg hJ, c219k, e_rI_i, C255_32, show tf (0 < e_n (-1)) = e_n 0 from by decide]
theorem F130 {d : Nat} {c1 : Int32} {I : Nat → Nat → Int32} {z : e_Z} {B : e_B} (H : Rel I z B) {x : Int32} : Face d c1 I z 130 256 [.int x] := by
  have wb := rel_wb H
  have wb4 : bPe B ≤ 9 := wb.2.2.2.1
  have hpc := (rel_bc H).2.2.2.1
  by_cases hm : x < 0 ∨ ¬ x < e_n (bPe B : Nat)
  · refine throw_p H ?_ ?_
    · refine (e_E_11 (d := d + 9) (y := 130) rfl).trans ?_
      show e_L (d + 9) 130 0 [.ref 1, .int x, .null, .null] [] (mk I z) = _
      rw [C130_0, hpc, if_pos hm]; rfl
    · intro J z2 HJ
      refine ⟨e_n 0, e_E_ret (d := d + 9) ?_⟩
      show e_L (d + 9) 256 0 [.ref 489, .int x, .null] [] (mk J z2) = _
      rw [C256_0, c245n (RB_0 (rel_rb HJ)) K0 hm, e_rI_i, C256_10 (fun h => absurd (by decide) h), if_pos (by decide)]
  obtain ⟨p, hp, rfl⟩ := in_n (by omega) hm
  have hli : I 51 1 = lm B (I 515) := (rel_mc H).2.1
  have hde : I 51 2 = I 515 1 := (rel_mc H).2.2.1
  have i4 : (e_n 4 + e_n (p : Nat)).toNatClampNeg = 4 + p := ix (a := 4) (by omega)
  have i13 : (e_n 13 + e_n (p : Nat)).toNatClampNeg = 13 + p := ix (a := 13) (by omega)
  have g4 : InR (e_n 4 + e_n (p : Nat)) 34 := ixI (a := 4) (by omega) (by decide)
  have g13 : InR (e_n 13 + e_n (p : Nat)) 34 := ixI (a := 13) (by omega) (by decide)
  have h9 : p < 9 := by omega
  have hdb := and_bit (I 515 1) (show p < 32 by omega)
  have hno : ∀ v : Int32, I 515 (4 + p) = e_n (-1) ∨ bt (I 515 1) p = true → Face d c1 I z 130 256 [.int (e_n (p : Nat))] := by
    intro _ hor
    refine refuse_face H (k := 1) (v := e_n (-1)) (by decide) (e_E_ret (d := d + 9) ?_) ?_
    · show e_L (d + 9) 130 0 [.ref 1, .int (e_n (p : Nat)), .null, .null] [] (mk I z) = _
      rw [C130_0, hpc, if_neg hm, hli, hde, w3_1]
      by_cases h1 : I 515 (4 + p) = e_n (-1)
      · rw [if_pos ((lbit wb4 hp).mpr h1)]
      · rw [if_neg (fun h => h1 ((lbit wb4 hp).mp h)), if_neg (fun h => by have := hdb.mp h; rw [hor.resolve_left h1] at this; cases this)]
    · intro J z2 hq rb
      refine e_E_ret (d := d + 9) ?_
      show e_L (d + 9) 256 0 [.ref 489, .int (e_n (p : Nat)), .null] [] (mk J z2) = _
      have hK : e_u J 489 0 (e_n 0) 515 = I 515 := by rw [K515 (by decide), hq 515 (by decide)]
      rw [C256_0, c245y rb K0 hm, e_rI_i, C256_10 (fun _ => g4), if_neg (by decide), i4, hK, c219k]
      by_cases h1 : I 515 (4 + p) = e_n (-1)
      · rw [if_pos h1, e_rI_i, C256_43]
      · rw [if_neg h1, if_pos ((shr_bit _ (show p < 32 by omega)).mpr (hor.resolve_left h1)), e_rI_i, C256_43]
  by_cases hl : I 515 (4 + p) = e_n (-1)
  · exact hno 0 (Or.inl hl)
  by_cases hd : bt (I 515 1) p = true
  · exact hno 0 (Or.inr hd)
  have hd0 : bt (I 515 1) p = false := by simpa using hd
  refine act_face H (M' := strS (I 515) p) (v := I 515 (13 + p)) (wm_str wb hp (rel_wm H)) ?_ ?_
  · intro I1 e1 hM1 hA
    refine ⟨_, e_E_ret (d := d + 9) ?_, MoC_str wb hp hM1, ?_⟩
    · show e_L (d + 9) 130 0 [.ref 1, .int (e_n (p : Nat)), .null, .null] [] (mk I z) = _
      rw [C130_0, hpc, if_neg hm, hli, hde, if_neg (fun h => hl ((lbit wb4 hp).mp h)), if_pos (hdb.mpr hd0), e1, e_rV_n, C130_49, wr_N (r := 51 + 1) (k := p) h9, wr_N (r := 51 + 2) (k := p) h9, rd_N (r := 53) (k := p) h9]
      exact congrArg (fun v => some (Sum.inl (some (Value.int v)), _)) (hM1.2.2.2.2.2.1 p hp).2.1
    · intro r hr
      rw [e_u_na (by omega), e_u_na (by omega), e_u_na (by omega)]
  · intro J K z2 hq rb k1 k4 k5
    refine ⟨e_u (e_u K 515 (4 + p) (e_n (-1))) 515 (13 + p) (e_n (-1)), e_E_ret (d := d + 9) ?_, ?_, ?_⟩
    · show e_L (d + 9) 256 0 [.ref 489, .int (e_n (p : Nat)), .null] [] (mk J z2) = _
      have hK : e_u J 489 0 (e_n 0) 515 = I 515 := by rw [K515 (by decide), hq 515 (by decide)]
      rw [C256_0, c245y rb K0 hm, e_rI_i, C256_10 (fun _ => g4), if_neg (by decide), i4, hK, if_neg hl, if_neg (fun h => hd ((shr_bit _ (show p < 32 by omega)).mp h)), k1, e_rV_n, C256_48 g13 g4, i4, i13, k4 515 (by decide) (by decide), hq 515 (by decide)]
    · intro j hj
      rw [e_u_at, e_u_at, k4 515 (by decide) (by decide), hq 515 (by decide)]
      unfold strS
      by_cases h1 : j = 13 + p
      · rw [if_pos h1, if_pos (Or.inr h1)]
      · rw [if_neg h1]
        by_cases h2 : j = 4 + p
        · rw [if_pos h2, if_pos (Or.inl h2)]
        · rw [if_neg h2, if_neg (by omega)]
    · intro r hr
      rw [e_u_na hr, e_u_na hr]
theorem F131 {d : Nat} {c1 : Int32} {I : Nat → Nat → Int32} {z : e_Z} {B : e_B} (H : Rel I z B) {x : Int32} (hx : x = e_n 0 ∨ x = e_n 1) : Face d c1 I z 131 257 [.int x] := by
  have wb := rel_wb H
  have h3 := (rel_wm H).2.2.2.1
  have ho : I 51 4 = I 515 3 := (rel_mc H).2.2.2.2.1
  have htf : tf (I 515 3 = e_n 1) = I 515 3 := by rcases h3 with h | h <;> rw [h] <;> decide
  by_cases he : I 515 3 = x
  · refine refuse_face H (k := 1) (v := e_n 0) (by decide) (e_E_ret (d := d + 9) ?_) ?_
    · show e_L (d + 9) 131 0 [.ref 1, .int x] [] (mk I z) = _
      rw [C131_0, ho, if_pos he, w3_1]
    · intro J z2 hq rb
      refine e_E_ret (d := d + 9) ?_
      show e_L (d + 9) 257 0 [.ref 489, .int x] [] (mk J z2) = _
      rw [C257_0, hq 515 (by decide), htf, if_pos he, c219k, e_rI_i, C257_29, show tf (0 < e_n (-1)) = e_n 0 from by decide]
  · have hx2 : tf (¬ x = 0) = x := by rcases hx with h | h <;> rw [h] <;> decide
    refine act_face H (M' := fun j => if j = 3 then x else I 515 j) (v := e_n 1) (wm_opn hx (rel_wm H)) ?_ ?_
    · intro I1 e1 hM1 hA
      refine ⟨_, e_E_ret (d := d + 9) ?_, MoC_opn (v := x) wb hM1, ?_⟩
      · show e_L (d + 9) 131 0 [.ref 1, .int x] [] (mk I z) = _
        rw [C131_0, ho, if_neg he, e1, e_rV_n, C131_28 (by rcases hx with h | h <;> rw [h] <;> decide)]
      · intro r hr
        rw [e_u_na (by omega)]
    · intro J K z2 hq rb k1 k4 k5
      refine ⟨e_u K 515 3 x, e_E_ret (d := d + 9) ?_, ?_, ?_⟩
      · show e_L (d + 9) 257 0 [.ref 489, .int x] [] (mk J z2) = _
        rw [C257_0, hq 515 (by decide), htf, if_neg he, k1, e_rV_n, C257_42, hx2]
      · intro j hj
        rw [e_u_at, k4 515 (by decide) (by decide), hq 515 (by decide)]
      · intro r hr
        rw [e_u_na hr]
end S82
