section S64
def rn1 (B : e_B) (sk cl sn sm : Int32) (k : Nat) (S : e_T) : e_T := moS B sk k (hkS cl sn sm k S)
/-- whether the scribe wrote -/
def flS (B : e_B) (sk cl sn sm : Int32) : Nat → Nat → e_T → Int32 → Int32
  | 0, _, _, v => v
  | n + 1, i, S, v => flS B sk cl sn sm n (i + 1) (rn1 B sk cl sn sm i S) (if sm = e_n (i : Nat) ∧ S 0 (4 + sn.toNatClampNeg) = e_n (-1) then e_n 1 else v)
theorem rn_loop {d many n t0 : Nat} {z : e_Z} {B : e_B} {sk cl sn sm : Int32} (wb : WB B) (hm : many ≤ 30) (hn : n = min many (60 - t0)) (ht : t0 ≤ 60) (hp : ∀ i : Nat, i < 30 → sm = e_n (i : Nat) → ∃ p, p < bPe B ∧ sn = e_n (p : Nat)) :
    ∀ (k i : Nat) (S : e_T) (I : Nat → Nat → Int32), i + k = n → BrC I (bd z.2.1.2.2.1) B → FC I B S i → WS B S → S 0 0 = e_n ((t0 + i : Nat) : Nat) → I 470 2 = sk → I 470 3 = cl → I 470 4 = sn → I 470 5 = sm →
    ∃ I', e_L (d + 5) 13 2 [.ref 470, .int (e_n (many : Nat)), .int (e_n (i : Nat))] [] (mk I z) = some (.inl none, mk I' z) ∧ FC I' B (itr (rn1 B sk cl sn sm) k i S) n ∧ WS B (itr (rn1 B sk cl sn sm) k i S) ∧ itr (rn1 B sk cl sn sm) k i S 0 0 = e_n ((t0 + n : Nat) : Nat) ∧ I' 470 6 = flS B sk cl sn sm k i S (I 470 6) ∧ (∀ r, r ≠ bd z.2.1.2.2.1 + 10 → r ≠ bd z.2.1.2.2.1 + 11 → (r < 470 ∨ 480 < r) → I' r = I r) := by
  have hb := B2_bd z.2.1.2.2.1
  have hbl := B2_le hb
  intro k
  induction k with
  | zero =>
    intro i S I hi hB hF ws hd h2 h3 h4 h5
    refine ⟨I, ?_, by rw [show n = i by omega]; exact hF, ws, by rw [show n = i by omega]; exact hd, rfl, fun _ _ _ _ => rfl⟩
    have hday : I 471 0 = e_n ((t0 + i : Nat) : Nat) := by rw [hF.1.1]; exact hd
    rw [C13_2, hday]
    by_cases h : i < many
    · rw [if_pos (by rw [e_n_ltN (by omega) (by omega)]; exact h), if_neg (by rw [show (e_n 60) = e_n ((60 : Nat) : Nat) from rfl, e_n_ltN (by omega) (by omega)]; omega)]
    · rw [if_neg (by rw [e_n_ltN (by omega) (by omega)]; exact h)]
  | succ k ih =>
    intro i S I hi hB hF ws hd h2 h3 h4 h5
    have hday : I 471 0 = e_n ((t0 + i : Nat) : Nat) := by rw [hF.1.1]; exact hd
    obtain ⟨I1, a1, a2, a3, a4, a5, a6, a7, a8, a9, a10, -⟩ := c14h (d := d) (z := z) (t := t0 + i) wb hB hF ws (by omega) (by omega) hd h2 h3 h4 h5 (hp i (by omega))
    obtain ⟨I2, b1, b2, b3, b4, b5, b6⟩ := ih (i + 1) (rn1 B sk cl sn sm i S) I1 (by omega) (BrC_fr (fun k _ _ _ q10 q11 => a5 _ (by omega) (by omega) (by omega)) hB) a2 a3 (by rw [show t0 + (i + 1) = t0 + i + 1 by omega]; exact a4) a6 a7 a8 a9
    refine ⟨I2, ?_, b2, b3, b4, by rw [b5, a10]; rfl, fun r q10 q11 hr => by rw [b6 r q10 q11 hr, a5 r q10 q11 hr]⟩
    rw [C13_2, hday, if_pos (by rw [e_n_ltN (by omega) (by omega)]; omega), if_pos (by rw [show (e_n 60) = e_n ((60 : Nat) : Nat) from rfl, e_n_ltN (by omega) (by omega)]; omega), a1, e_rV_n, C13_23, e_n_succ]
    exact b1
/-- mornings of the forecast -/
theorem c13h {d many t0 : Nat} {I : Nat → Nat → Int32} {z : e_Z} {B : e_B} {S : e_T} {sk cl sn sm : Int32} (wb : WB B) (hm : many ≤ 30) (ht : t0 ≤ 60) (hp : ∀ i : Nat, i < 30 → sm = e_n (i : Nat) → ∃ p, p < bPe B ∧ sn = e_n (p : Nat)) (hB : BrC I (bd z.2.1.2.2.1) B) (hF : FC I B S 0) (ws : WS B S) (hd : S 0 0 = e_n (t0 : Nat)) (h2 : I 470 2 = sk) (h3 : I 470 3 = cl) (h4 : I 470 4 = sn) (h5 : I 470 5 = sm) :
    ∃ I', e_E (d + 6) 13 [.ref 470, .int (e_n (many : Nat))] (mk I z) = some (.inl none, mk I' z) ∧ FC I' B (itr (rn1 B sk cl sn sm) (min many (60 - t0)) 0 S) (min many (60 - t0)) ∧ WS B (itr (rn1 B sk cl sn sm) (min many (60 - t0)) 0 S) ∧ itr (rn1 B sk cl sn sm) (min many (60 - t0)) 0 S 0 0 = e_n ((t0 + min many (60 - t0) : Nat) : Nat) ∧ I' 470 6 = flS B sk cl sn sm (min many (60 - t0)) 0 S (I 470 6) ∧ (∀ r, r ≠ bd z.2.1.2.2.1 + 10 → r ≠ bd z.2.1.2.2.1 + 11 → (r < 470 ∨ 480 < r) → I' r = I r) := by
  obtain ⟨I', a1, a2⟩ := rn_loop (d := d) (z := z) (t0 := t0) wb hm rfl ht hp (min many (60 - t0)) 0 S I (by omega) hB hF ws hd h2 h3 h4 h5
  exact ⟨I', e_E_ret (d := d + 5) (C13_0.trans a1), a2⟩
end S64
