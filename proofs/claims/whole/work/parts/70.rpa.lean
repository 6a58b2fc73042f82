section S70
theorem pl_loop {d r f0 m0 : Nat} {tr : Bool} {z : e_Z} {B : e_B} {sk : Int32} (hr : R2 r) (wb : WB B) (hfm : f0 + m0 < 1000) (htr : if tr then f0 + m0 ≤ 30 else 30 ≤ f0) : ∀ (n k t : Nat) (S : e_T) (I : Nat → Nat → Int32) (u5 u6 : Value), k + n = f0 + m0 → f0 ≤ k → t + n ≤ 60 → RB I B → RF I r S (if tr then k else 0) → WS B S → I 489 61 = sk → S 0 0 = e_n (t : Nat) →
    ∃ I', e_L (d + 5) 237 3 [.ref 489, .ref r, .int (e_n (f0 : Nat)), .int (e_n (m0 : Nat)), .int (e_n (k : Nat)), u5, u6] [] (mk I z) = some (.inl none, mk I' z) ∧ RF I' r (itr (moS B sk) n k S) (if tr then f0 + m0 else 0) ∧ WS B (itr (moS B sk) n k S) ∧ itr (moS B sk) n k S 0 0 = e_n ((t + n : Nat) : Nat) ∧ (∀ s, s ≠ r → s ≠ 489 → s ≠ 517 → s ≠ 518 → s ≠ 519 → s ≠ 520 → s ≠ 521 → s ≠ 522 → s ≠ 523 → s ≠ 524 → I' s = I s) ∧ (∀ j, j ≠ 60 → j ≠ 62 → I' 489 j = I 489 j) := by
  have hr10 : ¬ (490 ≤ r ∧ r ≤ 499) := by rcases hr with rfl | rfl <;> decide
  intro n
  induction n with
  | zero =>
    intro k t S I u5 u6 hk hfk ht hB hF ws hs hd
    refine ⟨I, ?_, by rw [show f0 + m0 = k by omega]; exact hF, ws, hd, fun _ _ _ _ _ _ _ _ _ _ _ => rfl, fun _ _ _ => rfl⟩
    rw [C237_3 hr, if_neg]
    rw [e_n_add, show ((f0 : Nat) : Int) + (m0 : Nat) = ((f0 + m0 : Nat) : Int) by omega, e_n_ltN (by omega) (by omega)]; omega
  | succ n ih =>
    intro k t S I u5 u6 hk hfk ht hB hF ws hs hd
    obtain ⟨I1, y5, y6, a1, a2, a3, a4, a5, a6⟩ := pl_step (d := d) (z := z) (f0 := f0) (m0 := m0) (tr := tr) (u5 := u5) (u6 := u6) hr wb hB hF ws hs (by cases tr <;> simp at htr ⊢ <;> omega) (by omega) hfm (show t < 60 by omega) hd
    obtain ⟨I2, b1, b2, b3, b4, b5, b6⟩ := ih (k + 1) (t + 1) (moS B sk k S) I1 y5 y6 (by omega) (by omega) (by omega) (RB_fr (fun j _ _ => a6 j (by omega) (by omega)) (fun q q1 q2 => a5 q (by omega) (by omega) (by omega) (by omega) (by omega) (by omega) (by omega) (by omega) (by omega) (by omega)) hB) a2 a3 (by rw [a6 61 (by decide) (by decide)]; exact hs) a4
    exact ⟨I2, a1.trans b1, b2, b3, by rw [show t + (n + 1) = t + 1 + n by omega]; exact b4, fun s s1 s2 s3 s4 s5 s6 s7 s8 s9 s10 => by rw [b5 s s1 s2 s3 s4 s5 s6 s7 s8 s9 s10, a5 s s1 s2 s3 s4 s5 s6 s7 s8 s9 s10], fun j j60 j62 => by rw [b6 j j60 j62, a6 j j60 j62]⟩
/-- so many mornings of a row -/
theorem c237h {d r f0 m0 t : Nat} {tr : Bool} {I : Nat → Nat → Int32} {z : e_Z} {B : e_B} {S : e_T} {sk : Int32} (hr : R2 r) (wb : WB B) (hfm : f0 + m0 < 1000) (htr : if tr then f0 + m0 ≤ 30 else 30 ≤ f0) (ht : t + m0 ≤ 60) (hB : RB I B) (hF : RF I r S (if tr then f0 else 0)) (ws : WS B S) (hs : I 489 61 = sk) (hd : S 0 0 = e_n (t : Nat)) :
    ∃ I', e_E (d + 6) 237 [.ref 489, .ref r, .int (e_n (f0 : Nat)), .int (e_n (m0 : Nat))] (mk I z) = some (.inl none, mk I' z) ∧ RF I' r (itr (moS B sk) m0 f0 S) (if tr then f0 + m0 else 0) ∧ WS B (itr (moS B sk) m0 f0 S) ∧ itr (moS B sk) m0 f0 S 0 0 = e_n ((t + m0 : Nat) : Nat) ∧ (∀ s, s ≠ r → s ≠ 489 → s ≠ 517 → s ≠ 518 → s ≠ 519 → s ≠ 520 → s ≠ 521 → s ≠ 522 → s ≠ 523 → s ≠ 524 → I' s = I s) ∧ (∀ j, j ≠ 60 → j ≠ 62 → I' 489 j = I 489 j) := by
  obtain ⟨I', a1, a2⟩ := pl_loop (d := d) (z := z) (sk := sk) hr wb hfm htr m0 f0 t S I .null .null rfl (Nat.le_refl _) ht hB hF ws hs hd
  exact ⟨I', e_E_ret (d := d + 5) ((C237_0 hr).trans a1), a2⟩
/-- a row copied by the reference -/
theorem c180h {d r r2 : Nat} {I : Nat → Nat → Int32} {z : e_Z} (h1 : kd r = 20) (h2 : kd r2 = 20) (hl : ln r ≤ ln r2) (hne : r ≠ r2) : e_E (d + 1) 180 [.ref 489, .ref r, .ref r2] (mk I z) = some (.inl none, mk (upR I r2 (fun j => if j < ln r then I r j else I r2 j)) z) := by
  have hlr := ln_le r
  have hlr2 := ln_le r2
  have key : ∀ n i, i + n = ln r → e_L d 180 2 [.ref 489, .ref r, .ref r2, .int (e_n (i : Nat))] [] (mk (upR I r2 (fun j => if j < i then I r j else I r2 j)) z) = some (.inl none, mk (upR I r2 (fun j => if j < ln r then I r j else I r2 j)) z) := by
    intro n
    induction n with
    | zero =>
      intro i hi
      rw [B180_2, e_al_mk h1, if_pos (by rw [e_n_of, e_cc_ge, e_n_lt (by omega) (by omega) (by omega) (by omega)]; omega), show i = ln r by omega]
    | succ n ih =>
      intro i hi
      rw [B180_2, e_al_mk h1, if_neg (by rw [e_n_of, e_cc_ge, e_n_lt (by omega) (by omega) (by omega) (by omega)]; omega), e_ia_mk h1, ck_ok (InR_n (by omega) (by omega) (by omega)), e_is_mk h2, ck_ok (InR_n (by omega) (by omega) (by omega)), B180_14, e_n_succ, e_n_nat' (by omega), upR_ne hne, e_u_up, upR_up, upR_same]
      rw [← ih (i + 1) (by omega)]
      congr 3
      funext j
      by_cases h : j = i
      · simp [h]
      · have : (j < i + 1) = (j < i) := by apply propext; omega
        simp [h, this]
  refine e_E_ret (d := d) (B180_0.trans ?_)
  have := key (ln r) 0 (by omega)
  rw [upR_id (by intro j; simp)] at this
  exact this
/-- the reference begins -/
theorem c235h {d : Nat} {I : Nat → Nat → Int32} {z : e_Z} {M : Nat → Int32} (hM : ∀ j, j < 34 → I 515 j = M j) :
    ∃ I', e_E (d + 2) 235 [.ref 489] (mk I z) = some (.inl none, mk I' z) ∧ RF I' 525 (begS M) 0 ∧ (∀ s, s ≠ 489 → s ≠ 519 → s ≠ 521 → s ≠ 525 → I' s = I s) ∧ (∀ j, j ≠ 60 → j ≠ 62 → I' 489 j = I 489 j) := by
  have k1 : ∀ n i (J : Nat → Nat → Int32), i + n = 9 → e_L (d + 1) 235 24 [.ref 489, .int (e_n (i : Nat))] [] (mk J z) = e_L (d + 1) 235 45 [.ref 489, .int (e_n 0)] [] (mk (upR J 521 (fun j => if i ≤ j ∧ j < 9 then e_n (-1) else J 521 j)) z) := by
    intro n
    induction n with
    | zero =>
      intro i J hi
      rw [C235_24 (fun h => absurd h (by rw [show (e_n 9) = e_n ((9 : Nat) : Nat) from rfl, e_n_ltN (by omega) (by omega)]; omega)), if_neg (by rw [show (e_n 9) = e_n ((9 : Nat) : Nat) from rfl, e_n_ltN (by omega) (by omega)]; omega), upR_id (by intro j; rw [if_neg (by omega)])]
    | succ n ih =>
      intro i J hi
      rw [C235_24 (fun _ => InR_n (by omega) (by omega) (by omega)), if_pos (by rw [show (e_n 9) = e_n ((9 : Nat) : Nat) from rfl, e_n_ltN (by omega) (by omega)]; omega), e_n_succ, e_n_nat' (by omega), ih (i + 1) _ (by omega), e_u_up, upR_up, upR_same]
      congr 3
      funext j
      by_cases h : j = i
      · subst h; rw [if_neg (by omega), if_pos rfl, if_pos (by omega)]
      · have : (i + 1 ≤ j ∧ j < 9) = (i ≤ j ∧ j < 9) := by apply propext; omega
        simp [h, this]
  have k2 : ∀ n i (J : Nat → Nat → Int32), i + n = 3 → e_L (d + 1) 235 45 [.ref 489, .int (e_n (i : Nat))] [] (mk J z) = some (.inl none, mk (upR J 519 (fun j => if i ≤ j ∧ j < 3 then e_n 0 else J 519 j)) z) := by
    intro n
    induction n with
    | zero =>
      intro i J hi
      rw [C235_45 (fun h => absurd h (by rw [show (e_n 3) = e_n ((3 : Nat) : Nat) from rfl, e_n_ltN (by omega) (by omega)]; omega)), if_neg (by rw [show (e_n 3) = e_n ((3 : Nat) : Nat) from rfl, e_n_ltN (by omega) (by omega)]; omega), upR_id (by intro j; rw [if_neg (by omega)])]
    | succ n ih =>
      intro i J hi
      rw [C235_45 (fun _ => InR_n (by omega) (by omega) (by omega)), if_pos (by rw [show (e_n 3) = e_n ((3 : Nat) : Nat) from rfl, e_n_ltN (by omega) (by omega)]; omega), e_n_succ, e_n_nat' (by omega), ih (i + 1) _ (by omega), e_u_up, upR_up, upR_same]
      congr 4
      funext j
      by_cases h : j = i
      · subst h; rw [if_neg (by omega), if_pos rfl, if_pos (by omega)]
      · have : (i + 1 ≤ j ∧ j < 3) = (i ≤ j ∧ j < 3) := by apply propext; omega
        simp [h, this]
  suffices hx : ∃ I', e_L (d + 1) 235 0 [.ref 489, .null] [] (mk I z) = some (.inl none, mk I' z) ∧ RF I' 525 (begS M) 0 ∧ (∀ s, s ≠ 489 → s ≠ 519 → s ≠ 521 → s ≠ 525 → I' s = I s) ∧ (∀ j, j ≠ 60 → j ≠ 62 → I' 489 j = I 489 j) by
    obtain ⟨I', h1, h2⟩ := hx
    exact ⟨I', e_E_ret (d := d + 1) h1, h2⟩
  rw [C235_0, c180h (r := 515) (r2 := 525) rfl rfl (by decide) (by decide), e_rV_n, C235_12, show e_L (d + 1) 235 24 [.ref 489, .int (e_n 0)] [] _ = _ from k1 9 0 _ (by decide), show e_L (d + 1) 235 45 [.ref 489, .int (e_n 0)] [] _ = _ from k2 3 0 _ (by decide)]
  refine ⟨_, rfl, ⟨?_, ?_, ?_, ?_, ?_, ?_, ?_⟩, ?_, ?_⟩
  · intro j hj
    rw [upR_ne (by decide), upR_ne (by decide), e_u_na (by decide), e_u_na (by decide), upR_same, if_pos (show j < ln 515 from hj)]
    exact hM j hj
  · rw [upR_ne (by decide), upR_ne (by decide), e_u_ne (by decide), e_u_same]; rfl
  · rw [upR_ne (by decide), upR_ne (by decide), e_u_same]; rfl
  · intro j hj
    exact absurd hj (by show ¬ j < (e_n 0).toNatClampNeg; rw [show (e_n 0).toNatClampNeg = 0 from by decide]; omega)
  · intro p hp
    rw [upR_ne (by decide), upR_same, if_pos (by omega)]; rfl
  · intro m hm
    rw [upR_same, if_pos (by omega)]; rfl
  · intro k hk; omega
  · intro s s1 s2 s3 s4
    rw [upR_ne s2, upR_ne s3, e_u_na s1, e_u_na s1, upR_ne s4]
  · intro j j60 j62
    rw [upR_ne (by decide), upR_ne (by decide), e_u_ne j60, e_u_ne j62, upR_ne (by decide)]
theorem v236_n {I : Nat → Nat → Int32} {t : Nat} (ht : t ≤ 60) (h : I 515 0 = e_n (t : Nat)) : v236 I = e_n ((min 30 (60 - t) : Nat) : Nat) := by
  unfold v236
  rw [h, e_n_sub, show (60 : Int) - (t : Nat) = ((60 - t : Nat) : Int) by omega]
  by_cases h30 : 30 < 60 - t
  · rw [if_pos (by rw [show (e_n 30) = e_n ((30 : Nat) : Nat) from rfl, e_n_ltN (by omega) (by omega)]; exact h30), Nat.min_eq_left (by omega)]; rfl
  · rw [if_neg (by rw [show (e_n 30) = e_n ((30 : Nat) : Nat) from rfl, e_n_ltN (by omega) (by omega)]; exact h30), Nat.min_eq_right (by omega)]
/-- the reference's forecast of 30 mornings -/
theorem c238h {d t : Nat} {I : Nat → Nat → Int32} {z : e_Z} {B : e_B} {M : Nat → Int32} {sk : Int32} (wb : WB B) (wm : WM B M) (hB : RB I B) (hM : ∀ j, j < 34 → I 515 j = M j) (ht : t ≤ 60) (hd : M 0 = e_n (t : Nat)) (hs : I 489 61 = sk) :
    ∃ I', e_E (d + 7) 238 [.ref 489] (mk I z) = some (.inl none, mk I' z) ∧ RF I' 525 (itr (moS B sk) (min 30 (60 - t)) 0 (begS M)) (min 30 (60 - t)) ∧ WS B (itr (moS B sk) (min 30 (60 - t)) 0 (begS M)) ∧ itr (moS B sk) (min 30 (60 - t)) 0 (begS M) 0 0 = e_n ((t + min 30 (60 - t) : Nat) : Nat) ∧ (∀ s, s ≠ 489 → s ≠ 517 → s ≠ 518 → s ≠ 519 → s ≠ 520 → s ≠ 521 → s ≠ 522 → s ≠ 523 → s ≠ 524 → s ≠ 525 → I' s = I s) ∧ (∀ j, j ≠ 60 → j ≠ 62 → I' 489 j = I 489 j) := by
  obtain ⟨I1, a1, a2, a3, a4⟩ := c235h (d := d + 4) (I := I) (z := z) hM
  have ws : WS B (begS M) := ⟨wm, 0, rfl, by have := cnt_le (bPe B) (fun p => decide (begS M 0 (4 + p) = e_n (-1))); have : bPe B ≤ 9 := wb.2.2.2.1; omega⟩
  obtain ⟨I2, b1, b2, b3, b4, b5, b6⟩ := c237h (d := d) (r := 525) (f0 := 0) (m0 := min 30 (60 - t)) (t := t) (tr := true) (z := z) (S := begS M) (sk := sk) R2_525 wb (by omega) (by simp; omega) (by omega) (RB_fr (fun j _ _ => a4 j (by omega) (by omega)) (fun q q1 q2 => a3 q (by omega) (by omega) (by omega) (by omega)) hB) a2 ws (by rw [a4 61 (by decide) (by decide)]; exact hs) hd
  have hv : v236 I1 = e_n ((min 30 (60 - t) : Nat) : Nat) := v236_n ht (by rw [a3 515 (by decide) (by decide) (by decide) (by decide), hM 0 (by decide)]; exact hd)
  refine ⟨I2, e_E_ret (d := d + 6) ?_, by simpa using b2, b3, b4, fun s s1 s2 s3 s4 s5 s6 s7 s8 s9 s10 => by rw [b5 s s10 s1 s2 s3 s4 s5 s6 s7 s8 s9, a3 s s1 s4 s6 s10], fun j j60 j62 => by rw [b6 j j60 j62, a4 j j60 j62]⟩
  show e_L (d + 6) 238 0 [.ref 489] [] (mk I z) = _
  rw [C238_0, a1, e_rV_n, C238_4, hv, show (e_n 0) = e_n ((0 : Nat) : Nat) from rfl, b1, e_rV_n, C238_17]
end S70
