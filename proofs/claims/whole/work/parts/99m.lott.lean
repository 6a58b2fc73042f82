/-! the lottery: the class plays -/
section S99m
theorem c44h {d b : Nat} {I : Nat → Nat → Int32} {z : e_Z} {B : e_B} {q : Int32 × e_T} (hb : B2 b) (wb : WB B) (hB : BrC I b B) (hL : LC I B q) (wm : WM B (q.2 0)) :
    ∃ I', e_E (d + 5) 44 [.ref 483, .ref b] (mk I z) = some (.inl none, mk I' z) ∧ LC I' B (itr (fd1 B) (bPe B) 0 q) ∧ WM B ((itr (fd1 B) (bPe B) 0 q).2 0) ∧ ∀ r, (r < 483 ∨ 488 < r) → I' r = I r := by
  have wb2 : bPl B ≤ 8 := wb.2.1
  have wb4 : bPe B ≤ 9 := wb.2.2.2.1
  have haw : v49 I 484 b = aw B (q.2 0) := by
    unfold v49 aw
    rw [hB.2.2.2.1, e_n_nat' (by omega)]
    apply itr_congr
    intro p s hp
    obtain ⟨a', ha', hat⟩ := wm.2.1 p hp
    rw [show (484 + 3 : Nat) = 487 from rfl, rd_N (r := 487) (Nat.lt_of_lt_of_le hp (Nat.le_trans wb4 (by decide))), (hL.2.2.2.2.1 p hp).2, hat, rd_N (by rw [lnb2 hb]; omega), e_n_nat' (by omega), hB.2.2.2.2.2.2.1 a' ha']
  have hx : ∀ r, 0 ≤ r → r < bPe B → (bt ((lm B (q.2 0) &&& (q.2 0 1 ^^^ e_n (-1))) &&& (aw B (q.2 0) ^^^ e_n (-1))) r = true ↔ huC B (q.2 0) r) := by
    intro r _ hr
    rw [bt_and, bt_and, bt_not _ (by omega), bt_not _ (by omega), aw_msk, bt_msk (by omega), bt_lm wb4]
    simp [hr, huC]
    constructor
    · rintro ⟨⟨a, b⟩, c⟩; exact ⟨a, b, c⟩
    · rintro ⟨a, b, c⟩; exact ⟨⟨a, b⟩, c⟩
  obtain ⟨I', a1, a2⟩ := c44l (d := d) (z := z) hb wb (bPe B) 0 q I (by omega) hB hL wm hx
  refine ⟨I', e_E_ret (d := d + 4) ?_, a2⟩
  show e_L (d + 4) 44 0 [.ref 483, .ref b, .null, .null] [] (mk I z) = _
  rw [C44_0 hb, haw, hL.1, hL.2.1]
  exact a1
def loS (B : e_B) (n : Nat) (q : Int32 × e_T) : Int32 × e_T := if bMa B = 0 ∨ bPe B = 0 then q else itr (fun _ => daS B) n 0 q
theorem c41l {d b : Nat} {z : e_Z} {B : e_B} {x : Int32} {n : Nat} (hb : B2 b) (wb : WB B) (hn : n ≤ 60) (hm : 0 < bMa B) (hp : 0 < bPe B) : ∀ (k i : Nat) (q : Int32 × e_T) (I : Nat → Nat → Int32), i + k = n → BrC I b B → LC I B q → WM B (q.2 0) →
    ∃ I', e_L (d + 5) 41 36 [.ref 483, .ref b, .ref 51, .int x, .int (e_n (n : Nat)), .int (e_n (i : Nat))] [] (mk I z) = some (.inl none, mk I' z) ∧ LC I' B (itr (fun _ => daS B) k i q) ∧ ∀ r, (r < 483 ∨ 488 < r) → I' r = I r := by
  have hbl := B2_le hb
  intro k
  induction k with
  | zero =>
    intro i q I hi hB hL wm
    have : i = n := by omega
    subst this
    exact ⟨I, by rw [C41_36 hb, if_neg (by rw [e_n_ltN (by omega) (by omega)]; omega)], hL, fun _ _ => rfl⟩
  | succ k ih =>
    intro i q I hi hB hL wm
    obtain ⟨I1, a1, a2, a3⟩ := c43h (d := d + 2) (z := z) hb wb hB hm hp wm hL
    have hB1 : BrC I1 b B := BrC_fr (fun k _ _ _ _ _ => a3 _ (by omega)) hB
    obtain ⟨I2, b1, b2, b3, b4⟩ := c44h (d := d) (z := z) hb wb hB1 a2 (wm_nm wb hm hp wm)
    have hB2 : BrC I2 b B := BrC_fr (fun k _ _ _ _ _ => b4 _ (by omega)) hB1
    obtain ⟨I3, g1, g2, g3⟩ := ih (i + 1) (daS B q) I2 (by omega) hB2 b2 b3
    refine ⟨I3, ?_, g2, fun r hr => by rw [g3 r hr, b4 r hr, a3 r hr]⟩
    rw [C41_36 hb, if_pos (by rw [e_n_ltN (by omega) (by omega)]; omega), a1, e_rV_n, C41_48 hb, b1, e_rV_n, C41_53 hb, e_n_succ]
    exact g1
theorem c41h {d b : Nat} {I : Nat → Nat → Int32} {z : e_Z} {B : e_B} {M : Nat → Int32} {x : Int32} {n : Nat} (hb : B2 b) (wb : WB B) (hB : BrC I b B) (hM : MoC I 51 B M) (wm : WM B M) (hn : n ≤ 60) :
    ∃ I', e_E (d + 6) 41 [.ref 483, .ref b, .ref 51, .int x, .int (e_n (n : Nat))] (mk I z) = some (.inl none, mk I' z) ∧ LC I' B (loS B n (x, begF M)) ∧ ∀ r, (r < 483 ∨ 488 < r) → I' r = I r := by
  have hbl := B2_le hb
  have wb1 : bMa B ≤ 3 := wb.1
  have wb4 : bPe B ≤ 9 := wb.2.2.2.1
  have ho : I 51 4 = 0 ∨ I 51 4 = 1 := by rw [hM.2.2.2.2.1]; exact wm.2.2.2.1
  obtain ⟨I1, a1, c5, c9, c3, cf⟩ := c47h (d := d + 3) (z := z) isMo_484 isMo_51 (by decide) ho
  have hlm : lm B (flM M) = lm B M := by
    unfold lm; apply itr_congr; intro i s hi
    have := flM_l (M := M) (p := i) (by omega)
    by_cases h : M (4 + i) = e_n (-1)
    · rw [if_pos h, if_pos (this.mpr h)]
    · rw [if_neg h, if_neg (fun q => h (this.mp q))]
  have cf' : ∀ r, (r < 483 ∨ 488 < r) → I1 r = I r := fun r hr => cf r (by omega)
  generalize hJ : e_u (e_u I1 483 2 x) 483 1 (e_n 0) = J
  have hJo : ∀ r, r ≠ 483 → J r = I1 r := fun r hr => by rw [← hJ, e_u_na hr, e_u_na hr]
  have hBJ : BrC J b B := BrC_fr (fun k _ _ _ _ _ => by rw [hJo _ (by omega), cf' _ (by omega)]) hB
  have hL : LC J B (x, begF M) := by
    have e0 : begF M 0 = flM M := rfl
    refine ⟨?_, ?_, ?_, ?_, ?_, ?_, ?_, ?_⟩
    · show _ = lm B (begF M 0)
      rw [e0, hlm, hJo _ (by decide), c5 1 (by decide)]; exact hM.2.1
    · show _ = begF M 0 1
      rw [e0, flM_o (by decide) (by decide), hJo _ (by decide), c5 2 (by decide)]; exact hM.2.2.1
    · show _ = begF M 0 2
      rw [e0, flM_o (by decide) (by decide), hJo _ (by decide), c5 3 (by decide)]; exact hM.2.2.2.1
    · show _ = begF M 0 3
      rw [e0, flM_o (by decide) (by decide), hJo _ (by decide), c5 4 (by decide)]; exact hM.2.2.2.2.1
    · intro p hp
      show _ = begF M 0 (13 + p) ∧ _ = begF M 0 (22 + p)
      rw [e0, flM_o (by omega) (by omega), flM_o (by omega) (by omega), hJo _ (by decide), hJo _ (by decide)]
      obtain ⟨-, h1, h2⟩ := c9 p (by omega)
      obtain ⟨-, k1, k2⟩ := hM.2.2.2.2.2.1 p hp
      exact ⟨h1.trans k1, h2.trans k2⟩
    · intro m hm
      show _ = begF M 0 (31 + m)
      rw [e0, flM_o (by omega) (by omega), hJo _ (by decide)]
      exact (c3 m (by omega)).trans (hM.2.2.2.2.2.2.2 m hm)
    · rw [← hJ, e_u_ne (by decide), e_u_same]
    · rw [← hJ, e_u_same]; rfl
  have hwm : WM B ((x, begF M).2 0) := wm_fl wb wm
  have main : ∃ I', e_L (d + 5) 41 8 [.ref 483, .ref b, .ref 51, .int x, .int (e_n (n : Nat)), .null] [] (mk I1 z) = some (.inl none, mk I' z) ∧ LC I' B (loS B n (x, begF M)) ∧ ∀ r, (r < 483 ∨ 488 < r) → I' r = J r := by
    rw [C41_8 hb, hJ, hBJ.1, hBJ.2.2.2.1]
    unfold loS
    by_cases h1 : bMa B = 0
    · rw [h1, if_pos (by decide), if_pos (Or.inl rfl)]
      exact ⟨J, rfl, hL, fun _ _ => rfl⟩
    · rw [if_neg (fun q => h1 (by rw [show (0 : Int32) = e_n ((0 : Nat) : Nat) from rfl, e_n_inj (by omega) (by omega) (by omega) (by omega)] at q; omega))]
      by_cases h2 : bPe B = 0
      · rw [h2, if_pos (by decide), if_pos (Or.inr rfl)]
        exact ⟨J, rfl, hL, fun _ _ => rfl⟩
      · rw [if_neg (fun q => h2 (by rw [show (0 : Int32) = e_n ((0 : Nat) : Nat) from rfl, e_n_inj (by omega) (by omega) (by omega) (by omega)] at q; omega)), if_neg (fun h => h.elim h1 h2)]
        exact c41l hb wb hn (by omega) (by omega) n 0 (x, begF M) J (by omega) hBJ hL hwm
  obtain ⟨I', m1, m2, m3⟩ := main
  refine ⟨I', e_E_ret (d := d + 5) ?_, m2, fun r hr => by rw [m3 r hr, hJo r (by omega), cf' r hr]⟩
  show e_L (d + 5) 41 0 [.ref 483, .ref b, .ref 51, .int x, .int (e_n (n : Nat)), .null] [] (mk I z) = _
  rw [C41_0 hb, a1, e_rV_n]
  exact m1
end S99m
