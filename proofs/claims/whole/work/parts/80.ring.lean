/-! acts: the class's ring and the reference's rows -/
section S80
theorem lm_cg {B : e_B} {M M' : Nat → Int32} (wb4 : bPe B ≤ 9) (h : ∀ j, j < 34 → M j = M' j) : lm B M = lm B M' := by
  unfold lm
  apply itr_congr
  intro i s hi
  rw [h (4 + i) (by omega)]
theorem MoC_cg {I : Nat → Nat → Int32} {a : Nat} {B : e_B} {M M' : Nat → Int32} (wb : WB B) (h : ∀ j, j < 34 → M j = M' j) (H : MoC I a B M) : MoC I a B M' := by
  have wb1 : bMa B ≤ 3 := wb.1
  have wb4 : bPe B ≤ 9 := wb.2.2.2.1
  obtain ⟨m0, m1, m2, m3, m4, m5, m6, m7⟩ := H
  exact ⟨by rw [← h 0 (by decide)]; exact m0, by rw [← lm_cg wb4 h]; exact m1, by rw [← h 1 (by decide)]; exact m2, by rw [← h 2 (by decide)]; exact m3, by rw [← h 3 (by decide)]; exact m4, fun p hp => by rw [← h (4 + p) (by omega), ← h (13 + p) (by omega), ← h (22 + p) (by omega)]; exact m5 p hp, m6, fun m hm => by rw [← h (31 + m) (by omega)]; exact m7 m hm⟩
theorem WM_cg {B : e_B} {M M' : Nat → Int32} (wb : WB B) (h : ∀ j, j < 34 → M j = M' j) (H : WM B M) : WM B M' := by
  have wb1 : bMa B ≤ 3 := wb.1
  have wb4 : bPe B ≤ 9 := wb.2.2.2.1
  obtain ⟨⟨t, ht, h0, h1⟩, h2, h3, h4, h5, h6, h7⟩ := H
  exact ⟨⟨t, ht, by rw [← h 0 (by decide)]; exact h0, fun p hp => by rw [← h (4 + p) (by omega)]; exact h1 p hp⟩, fun p hp => by rw [← h (22 + p) (by omega)]; exact h2 p hp, fun p hp => by rw [← h (13 + p) (by omega)]; exact h3 p hp, by rw [← h 3 (by decide)]; exact h4, fun m hm => by rw [← h (31 + m) (by omega)]; exact h5 m hm, fun i hi => by rw [← h 1 (by decide)]; exact h6 i hi, by rw [← h 1 (by decide), ← h 2 (by decide)]; exact h7⟩
theorem Cpd_MoC {I I' : Nat → Nat → Int32} {a2 a : Nat} {B : e_B} {M : Nat → Int32} (wb : WB B) (C : Cpd I I' a2 a) (H : MoC I a2 B M) : MoC I' a B M := by
  have wb1 : bMa B ≤ 3 := wb.1
  have wb4 : bPe B ≤ 9 := wb.2.2.2.1
  obtain ⟨h2, h3, h4, -⟩ := C
  obtain ⟨m0, m1, m2, m3, m4, m5, m6, m7⟩ := H
  refine ⟨by rw [h2 0 (by decide)]; exact m0, by rw [h2 1 (by decide)]; exact m1, by rw [h2 2 (by decide)]; exact m2, by rw [h2 3 (by decide)]; exact m3, by rw [h2 4 (by decide)]; exact m4, ?_, ?_, ?_⟩
  · intro p hp
    have := h3 p (by omega)
    rw [this.1, this.2.1, this.2.2]; exact m5 p hp
  · intro p hp hp9
    rw [(h3 p hp9).2.1]; exact m6 p hp hp9
  · intro m hm
    rw [h4 m (by omega)]; exact m7 m hm
/-- a story of the class: now M, ahead of it n rows A -/
def CSt (I : Nat → Nat → Int32) (t : Nat) (B : e_B) (M : Nat → Int32) (n : Nat) (A : Nat → Nat → Int32) : Prop :=
  MoC I (t + 1) B M ∧ ∃ o : Nat, o < 40 ∧ I t 2 = e_n (o : Nat) ∧ I t 3 = e_n (n : Nat) ∧ ∀ k, k < n → MoC I (t + 10 + 5 * ((o + k) % 40)) B (A k)
theorem v326_40 {I : Nat → Nat → Int32} {a : Nat} (h : a < 80) : v326 I (e_n (a : Nat)) (e_n 40) = e_n ((a % 40 : Nat) : Nat) := by
  have : ∀ a : Fin 80, v326 (fun _ _ => 0) (e_n (a.val : Nat)) (e_n 40) = e_n ((a.val % 40 : Nat) : Nat) := by decide +kernel
  exact this ⟨a, h⟩
theorem frK {t : Nat} (ht : T2 t) (p : e_P) {j : Nat} (hj : j < 40) : fr p (t + 6) j = t + 10 + 5 * j := by
  have h1 : ∀ j : Fin 40, ∀ s rb fb tt : Bool, fr (s, rb, fb, tt) (50 + 6) j.val = 50 + 10 + 5 * j.val := by decide +kernel
  have h2 : ∀ j : Fin 40, ∀ s rb fb tt : Bool, fr (s, rb, fb, tt) (260 + 6) j.val = 260 + 10 + 5 * j.val := by decide +kernel
  rcases ht with rfl | rfl
  · exact h1 ⟨j, hj⟩ p.1 p.2.1 p.2.2.1 p.2.2.2
  · exact h2 ⟨j, hj⟩ p.1 p.2.1 p.2.2.1 p.2.2.2
theorem isMo_t {t : Nat} (ht : T2 t) (j : Nat) (hj : j < 40) : isMo (t + 10 + 5 * j) := by
  rcases ht with rfl | rfl
  · exact isMo_k 60 (Or.inl rfl) j hj
  · exact isMo_k 270 (Or.inr rfl) j hj
theorem isMo_n {t : Nat} (ht : T2 t) : isMo (t + 1) := by
  rcases ht with rfl | rfl
  · exact isMo_51
  · exact isMo_261
theorem e_ck_mo {α : Type} {I : Nat → Nat → Int32} {z : e_Z} {s : Nat} (h : isMo s) (x : Option α) : e_ck (mk I z) 6 s x = x := by
  unfold e_ck
  have : e_okr (mk I z) 6 s = true := by
    unfold e_okr
    rw [e_k_kd h.1 (by decide)]; rfl
  rw [if_pos this]
theorem c96h {d t o k : Nat} {I : Nat → Nat → Int32} {z : e_Z} (ht : T2 t) (ho : o < 40) (hk : k < 40) (h2 : I t 2 = e_n (o : Nat)) : e_E (d + 2) 96 [.ref t, .int (e_n (k : Nat))] (mk I z) = some (.inl (some (.ref (t + 10 + 5 * ((o + k) % 40)))), mk I z) := by
  refine e_E_ret (d := d + 1) ((C96_0 ht).trans ?_)
  have hm : (o + k) % 40 < 40 := Nat.mod_lt _ (by decide)
  rw [h2, e_n_add, show ((o : Nat) : Int) + (k : Nat) = ((o + k : Nat) : Int) by omega, c326 (by decide), v326_40 (by omega), e_rI_i, C96_15 ht (InR_n (by omega) (by omega) (by omega)), e_n_nat' (by omega), frK ht _ hm]
theorem openM {I : Nat → Nat → Int32} {a : Nat} {B : e_B} {M : Nat → Int32} (wm : WM B M) (hM : MoC I a B M) : I a 4 = 0 ∨ I a 4 = 1 := by
  rw [hM.2.2.2.2.1]
  rcases wm.2.2.2.1 with h | h
  · rw [h]; exact Or.inl rfl
  · rw [h]; exact Or.inr rfl
/-- what acts of the class leave -/
def CAf (t : Nat) (I I' : Nat → Nat → Int32) : Prop := (∀ r, r ≠ t → (r < t + 10 ∨ t + 210 ≤ r) → I' r = I r) ∧ ∀ j, j ≠ 2 → j ≠ 3 → I' t j = I t j
theorem keep_tail {d t n : Nat} {I : Nat → Nat → Int32} {z : e_Z} {B : e_B} {M : Nat → Int32} {A : Nat → Nat → Int32} (ht : T2 t) (wb : WB B) (wm : WM B M) (H : CSt I t B M n A) (hn : n < 40) : ∃ s I', e_E (d + 2) 96 [.ref t, .int (e_n (n : Nat))] (mk I z) = some (.inl (some (.ref s)), mk I z) ∧ e_L (d + 2) 97 42 [.ref t] [.ref s] (mk I z) = some (.inl none, mk I' z) ∧ CSt I' t B M (n + 1) (fun k => if k < n then A k else M) ∧ CAf t I I' := by
  obtain ⟨h1, o, ho, h2, h3, h4⟩ := H
  have hm : (o + n) % 40 < 40 := Nat.mod_lt _ (by decide)
  have hmo := isMo_t ht _ hm
  obtain ⟨I1, e1, e2⟩ := c47h (d := d) (I := I) (z := z) hmo (isMo_n ht) (by omega) (openM wm h1)
  have hfr : ∀ r, (r < t + 10 + 5 * ((o + n) % 40) ∨ t + 10 + 5 * ((o + n) % 40) + 4 < r) → I1 r = I r := e2.2.2.2
  refine ⟨_, e_u I1 t 3 (e_n ((n + 1 : Nat) : Nat)), c96h ht ho hn h2, ?_, ⟨?_, o, ho, ?_, ?_, ?_⟩, ?_, ?_⟩
  · rw [C97_42 ht, e_ck_mo hmo, e1, e_rV_n, C97_49 ht, hfr t (by omega), h3, e_n_succ]
  · refine MoC_fr (fun k hk => ?_) h1
    rw [e_u_na (by omega), hfr _ (by omega)]
  · rw [e_u_ne (by decide), hfr t (by omega)]; exact h2
  · rw [e_u_same]
  · intro k hk
    by_cases hkn : k < n
    · simp only [hkn, if_true]
      have hne : (o + k) % 40 ≠ (o + n) % 40 := by omega
      refine MoC_fr (fun j hj => ?_) (h4 k hkn)
      rw [e_u_na (by omega), hfr _ (by omega)]
    · have : k = n := by omega
      subst this
      simp only [hkn, if_false]
      exact MoC_fr (fun j hj => e_u_na (by omega)) (Cpd_MoC wb e2 h1)
  · intro r hr hr2
    rw [e_u_na hr]
    exact hfr r (by omega)
  · intro j _ j3
    rw [e_u_ne j3, hfr t (by omega)]
def kn (n : Nat) : Nat := if n < 40 then n + 1 else 40
def kA (n : Nat) (M : Nat → Int32) (A : Nat → Nat → Int32) : Nat → Nat → Int32 := fun k => if n < 40 then (if k < n then A k else M) else (if k < 39 then A (k + 1) else M)
/-- the class keeps a row ahead of an act -/
theorem c97h {d t n : Nat} {I : Nat → Nat → Int32} {z : e_Z} {B : e_B} {M : Nat → Int32} {A : Nat → Nat → Int32} (ht : T2 t) (wb : WB B) (wm : WM B M) (H : CSt I t B M n A) (hn : n ≤ 40) : ∃ I', e_E (d + 3) 97 [.ref t] (mk I z) = some (.inl none, mk I' z) ∧ CSt I' t B M (kn n) (kA n M A) ∧ CAf t I I' := by
  obtain ⟨h1, o, ho, h2, h3, h4⟩ := id H
  by_cases h40 : n < 40
  · obtain ⟨s, I', e1, e2, e3, e4⟩ := keep_tail (d := d) (z := z) ht wb wm H h40
    refine ⟨I', e_E_ret (d := d + 2) ((C97_0 ht).trans ?_), ?_, e4⟩
    · rw [h3, if_neg (by rw [show (e_n 40) = e_n ((40 : Nat) : Nat) from rfl, e_n_inj (by omega) (by omega) (by omega) (by omega)]; omega), e1, e_rF_r]
      exact e2
    · have hk : kn n = n + 1 := by unfold kn; rw [if_pos h40]
      have hA : kA n M A = fun k => if k < n then A k else M := by funext k; unfold kA; rw [if_pos h40]
      rw [hk, hA]; exact e3
  · have : n = 40 := by omega
    subst this
    have H2 : CSt (e_u (e_u I t 2 (e_n (((o + 1) % 40 : Nat) : Nat))) t 3 (e_n ((39 : Nat) : Nat))) t B M 39 (fun k => A (k + 1)) := by
      refine ⟨MoC_fr (fun k hk => by rw [e_u_na (by omega), e_u_na (by omega)]) h1, (o + 1) % 40, Nat.mod_lt _ (by decide), ?_, ?_, ?_⟩
      · rw [e_u_ne (by decide), e_u_same]
      · rw [e_u_same]
      · intro k hk
        have := h4 (k + 1) (by omega)
        rw [show ((o + 1) % 40 + k) % 40 = (o + (k + 1)) % 40 by omega]
        exact MoC_fr (fun j hj => by rw [e_u_na (by omega), e_u_na (by omega)]) this
    obtain ⟨s, I', e1, e2, e3, e4⟩ := keep_tail (d := d) (z := z) ht wb wm H2 (by decide)
    refine ⟨I', e_E_ret (d := d + 2) ((C97_0 ht).trans ?_), ?_, ?_, ?_⟩
    · have h39 : e_n ((40 : Nat) : Nat) - e_n 1 = e_n ((39 : Nat) : Nat) := by decide
      rw [h3, if_pos (by decide), h2, e_n_succ, c326 (by decide), v326_40 (by omega), e_rI_i, C97_21 ht, h3, h39, e1, e_rF_r]
      exact e2
    · have hA : kA 40 M A = fun k => if k < 39 then A (k + 1) else M := by funext k; unfold kA; rw [if_neg (by decide)]
      rw [hA]; exact e3
    · intro r hr hr2
      rw [e4.1 r hr hr2, e_u_na hr, e_u_na hr]
    · intro j j2 j3
      rw [e4.2 j j2 j3, e_u_ne j3, e_u_ne j2]
/-- the class takes an act back -/
theorem c98h {d t n : Nat} {I : Nat → Nat → Int32} {z : e_Z} {B : e_B} {M : Nat → Int32} {A : Nat → Nat → Int32} (ht : T2 t) (wb : WB B) (H : CSt I t B M (n + 1) A) (wa : WM B (A n)) (hn : n < 40) : ∃ I', e_E (d + 3) 98 [.ref t] (mk I z) = some (.inl none, mk I' z) ∧ CSt I' t B (A n) n A ∧ (∀ r, (r < t ∨ t + 5 < r) → I' r = I r) ∧ (∀ j, j ≠ 3 → I' t j = I t j) := by
  obtain ⟨h1, o, ho, h2, h3, h4⟩ := H
  have hm : (o + n) % 40 < 40 := Nat.mod_lt _ (by decide)
  have hmo := isMo_t ht _ hm
  have hs := h4 n (by omega)
  have hn1 : e_n ((n + 1 : Nat) : Nat) - e_n 1 = e_n (n : Nat) := by rw [e_n_sub]; congr 1; omega
  have hs1 : MoC (e_u I t 3 (e_n (n : Nat))) (t + 10 + 5 * ((o + n) % 40)) B (A n) := MoC_fr (fun k hk => e_u_na (by omega)) hs
  obtain ⟨I1, e1, e2⟩ := c47h (d := d) (I := e_u I t 3 (e_n (n : Nat))) (z := z) (isMo_n ht) hmo (by omega) (openM wa hs1)
  have hfr : ∀ r, (r < t + 1 ∨ t + 1 + 4 < r) → I1 r = e_u I t 3 (e_n (n : Nat)) r := e2.2.2.2
  refine ⟨I1, e_E_ret (d := d + 2) ((C98_0 ht).trans ?_), ⟨?_, o, ho, ?_, ?_, ?_⟩, ?_, ?_⟩
  · rw [h3, if_pos (by rw [show (0 : Int32) = e_n ((0 : Nat) : Nat) from rfl, e_n_ltN (by omega) (by omega)]; omega), hn1, c96h ht ho hn (by rw [e_u_ne (by decide)]; exact h2), e_rF_r, C98_29 ht, e1, e_rV_n, C98_32 ht]
  · exact Cpd_MoC wb e2 hs1
  · rw [hfr t (by omega), e_u_ne (by decide)]; exact h2
  · rw [hfr t (by omega), e_u_same]
  · intro k hk
    refine MoC_fr (fun j hj => ?_) (h4 k (by omega))
    rw [hfr _ (by omega), e_u_na (by omega)]
  · intro r hr
    rw [hfr r (by omega), e_u_na (by omega)]
  · intro j hj
    rw [hfr t (by omega), e_u_ne hj]
-- the reference's rows
theorem c218h {d n : Nat} {I : Nat → Nat → Int32} {z : e_Z} {M : Nat → Int32} {A : Nat → Nat → Int32} (hM : ∀ j, j < 34 → I 515 j = M j) (hn : I 489 56 = e_n (n : Nat)) (hn4 : n ≤ 40) (hA : ∀ k, k < n → ∀ j, j < 34 → I 516 (34 * k + j) = A k j) :
    ∃ I', e_E (d + 1) 218 [.ref 489] (mk I z) = some (.inl none, mk I' z) ∧ I' 489 56 = e_n (kn n : Nat) ∧ (∀ k, k < kn n → ∀ j, j < 34 → I' 516 (34 * k + j) = kA n M A k j) ∧ (∀ r, r ≠ 489 → r ≠ 516 → I' r = I r) ∧ (∀ j, j ≠ 56 → I' 489 j = I 489 j) := by
  -- the row now, written behind m rows
  have tail : ∀ (m : Nat) (J : Nat → Nat → Int32), m < 40 → J 489 56 = e_n (m : Nat) → (∀ j, j < 34 → J 515 j = M j) → ∀ (k x : Nat) (K : Nat → Nat → Int32), x + k = 34 → K = upR J 516 (fun i => if 34 * m ≤ i ∧ i < 34 * m + x then M (i - 34 * m) else J 516 i) → e_L d 218 52 [.ref 489, .int (e_n (x : Nat))] [] (mk K z) = some (.inl none, mk (e_u (upR J 516 (fun i => if 34 * m ≤ i ∧ i < 34 * m + 34 then M (i - 34 * m) else J 516 i)) 489 56 (e_n ((m + 1 : Nat) : Nat))) z) := by
    intro m J hm hJ hJM k
    induction k with
    | zero =>
      intro x K hx hK
      have : x = 34 := by omega
      subst this
      rw [C218_52 (fun h => absurd h (by decide)) (fun h => absurd h (by decide)), if_neg (by decide), hK, upR_ne (by decide), hJ, e_n_succ]
    | succ k ih =>
      intro x K hx hK
      have hK56 : K 489 56 = e_n (m : Nat) := by rw [hK, upR_ne (by decide)]; exact hJ
      have hix : e_n 34 * e_n (m : Nat) + e_n (x : Nat) = e_n ((34 * m + x : Nat) : Nat) := by rw [e_n_mul, e_n_add]; congr 1
      rw [C218_52 (fun _ => InR_n (by omega) (by omega) (by omega)) (fun _ => by rw [hK56, hix]; exact InR_n (by omega) (by omega) (by omega)), if_pos (by rw [show (e_n 34) = e_n ((34 : Nat) : Nat) from rfl, e_n_ltN (by omega) (by omega)]; omega), hK56, hix, e_n_nat' (by omega), e_n_nat' (by omega), e_n_succ]
      refine ih (x + 1) _ (by omega) ?_
      rw [hK, upR_ne (by decide), hJM x (by omega), e_u_up, upR_up, upR_same]
      congr 1
      funext i
      by_cases h : i = 34 * m + x
      · subst h
        rw [if_pos rfl, if_pos (by omega), show 34 * m + x - 34 * m = x by omega]
      · rw [if_neg h]
        have : (34 * m ≤ i ∧ i < 34 * m + (x + 1)) = (34 * m ≤ i ∧ i < 34 * m + x) := by apply propext; omega
        simp only [this]
  by_cases h40 : n < 40
  · refine ⟨e_u (upR I 516 (fun i => if 34 * n ≤ i ∧ i < 34 * n + 34 then M (i - 34 * n) else I 516 i)) 489 56 (e_n ((n + 1 : Nat) : Nat)), e_E_ret (d := d) (C218_0.trans ?_), ?_, ?_, ?_, ?_⟩
    · rw [hn, if_neg (by rw [show (e_n 40) = e_n ((40 : Nat) : Nat) from rfl, e_n_inj (by omega) (by omega) (by omega) (by omega)]; omega)]
      refine tail n I h40 hn hM 34 0 I (by decide) ?_
      rw [upR_id (by intro j; rw [if_neg (by omega)])]
    · rw [e_u_same]; unfold kn; rw [if_pos h40]
    · intro k hk j hj
      have hk' : kn n = n + 1 := by unfold kn; rw [if_pos h40]
      rw [hk'] at hk
      rw [e_u_na (by decide), upR_same]
      unfold kA
      rw [if_pos h40]
      by_cases hkn : k < n
      · rw [if_neg (by omega), if_pos hkn]; exact hA k hkn j hj
      · have : k = n := by omega
        subst this
        rw [if_pos (by omega), if_neg hkn]; congr 1; omega
    · intro r h1 h2
      rw [e_u_na h1, upR_ne h2]
    · intro j hj
      rw [e_u_ne hj, upR_ne (by decide)]
  · have : n = 40 := by omega
    subst this
    -- all rows a place ahead
    have shift : ∀ (k x : Nat) (K : Nat → Nat → Int32), x + k = 1360 → 34 ≤ x → K = upR I 516 (fun i => if i + 34 < x then I 516 (i + 34) else I 516 i) → e_L d 218 12 [.ref 489, .int (e_n (x : Nat))] [] (mk K z) = e_L d 218 52 [.ref 489, .int (e_n 0)] [] (mk (e_u (upR I 516 (fun i => if i + 34 < 1360 then I 516 (i + 34) else I 516 i)) 489 56 (e_n ((39 : Nat) : Nat))) z) := by
      intro k
      induction k with
      | zero =>
        intro x K hx h34 hK
        have : x = 1360 := by omega
        subst this
        rw [C218_12 (fun h => absurd h (by decide)) (fun h => absurd h (by decide)), if_neg (by decide), hK, upR_ne (by decide), hn, show e_n ((40 : Nat) : Nat) - e_n 1 = e_n ((39 : Nat) : Nat) from by decide]
      | succ k ih =>
        intro x K hx h34 hK
        have hix : e_n (x : Nat) - e_n 34 = e_n ((x - 34 : Nat) : Nat) := by rw [e_n_sub]; congr 1; omega
        rw [C218_12 (fun _ => InR_n (by omega) (by omega) (by omega)) (fun _ => by rw [hix]; exact InR_n (by omega) (by omega) (by omega)), if_pos (by rw [show (e_n 1360) = e_n ((1360 : Nat) : Nat) from rfl, e_n_ltN (by omega) (by omega)]; omega), hix, e_n_nat' (by omega), e_n_nat' (by omega), e_n_succ]
        refine ih (x + 1) _ (by omega) (by omega) ?_
        have hx0 : K 516 x = I 516 x := by rw [hK, upR_same, if_neg (by omega)]
        rw [hx0, hK, e_u_up, upR_up, upR_same]
        congr 1
        funext i
        by_cases h : i = x - 34
        · rw [if_pos h, if_pos (by omega), show i + 34 = x by omega]
        · rw [if_neg h]
          have : (i + 34 < x + 1) = (i + 34 < x) := by apply propext; omega
          simp only [this]
    generalize hG : e_u (upR I 516 (fun i => if i + 34 < 1360 then I 516 (i + 34) else I 516 i)) 489 56 (e_n ((39 : Nat) : Nat)) = G at shift
    have G516 : ∀ i, G 516 i = if i + 34 < 1360 then I 516 (i + 34) else I 516 i := by intro i; rw [← hG, e_u_na (by decide), upR_same]
    refine ⟨e_u (upR G 516 (fun i => if 34 * 39 ≤ i ∧ i < 34 * 39 + 34 then M (i - 34 * 39) else G 516 i)) 489 56 (e_n ((39 + 1 : Nat) : Nat)), e_E_ret (d := d) (C218_0.trans ?_), ?_, ?_, ?_, ?_⟩
    · rw [hn, if_pos (by decide)]
      refine (shift 1326 34 I (by decide) (by decide) (by rw [upR_id (by intro j; rw [if_neg (by omega)])])).trans ?_
      refine tail 39 G (by decide) ?_ ?_ 34 0 G (by decide) ?_
      · rw [← hG, e_u_same]
      · intro j hj; rw [← hG, e_u_na (by decide), upR_ne (by decide)]; exact hM j hj
      · rw [upR_id (by intro j; rw [if_neg (by omega)])]
    · rw [e_u_same]; rfl
    · intro k hk j hj
      have hk : k < 40 := hk
      have ek : kA 40 M A k = if k < 39 then A (k + 1) else M := by unfold kA; exact if_neg (by decide)
      rw [e_u_na (by decide), upR_same, ek]
      by_cases hkn : k < 39
      · rw [if_neg (by omega), if_pos hkn, G516, if_pos (by omega), ← hA (k + 1) (by omega) j hj]; congr 1; omega
      · have : k = 39 := by omega
        subst this
        rw [if_pos (by omega), if_neg (by omega), show 34 * 39 + j - 34 * 39 = j by omega]
    · intro r h1 h2
      rw [e_u_na h1, upR_ne h2, ← hG, e_u_na h1, upR_ne h2]
    · intro j hj
      rw [e_u_ne hj, upR_ne (by decide), ← hG, e_u_ne hj, upR_ne (by decide)]
end S80
