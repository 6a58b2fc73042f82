/-! what is seen; a run with a name put in by the scribe -/
section S94
def al (c : Nat → Bool) : Nat → Nat → Bool
  | 0, _ => true
  | k + 1, i => c i && al c k (i + 1)
/-- the list at the end of a morning, or behind the last one -/
def LB (B : e_B) (S : e_T) (n i : Nat) : Int32 := if i < n then S 7 i else lm B (S 0)
/-- what is seen is so (w: its row) -/
def seC (B : e_B) (S : e_T) (n : Nat) (w : Nat → Int32) (k : Nat) : Bool := decide (tf (bt (LB B S n (w (3 * k + 1)).toNatClampNeg) (w (3 * k)).toNatClampNeg = true) = w (3 * k + 2))
theorem c100h {d n ns : Nat} {I : Nat → Nat → Int32} {z : e_Z} {B : e_B} {S : e_T} (wb : WB B) (hn : n ≤ 30) (hF : FC I B S n) (h4 : I 50 4 = e_n (ns : Nat)) (hns : ns ≤ 8) (hs : ∀ k, k < ns → (I 57 k = I 532 (3 * k) ∧ ∃ p : Nat, p < bPe B ∧ I 532 (3 * k) = e_n (p : Nat)) ∧ (I 58 k = I 532 (3 * k + 1) ∧ ∃ i : Nat, i < 30 ∧ I 532 (3 * k + 1) = e_n (i : Nat)) ∧ I 59 k = I 532 (3 * k + 2) ∧ (I 532 (3 * k + 2) = e_n 0 ∨ I 532 (3 * k + 2) = e_n 1)) :
    e_E (d + 3) 100 [.ref 50, .ref 470] (mk I z) = some (.inl (some (.int (tf (al (seC B S n (I 532)) ns 0 = true)))), mk I z) := by
  have wb4 : bPe B ≤ 9 := wb.2.2.2.1
  refine e_E_ret (d := d + 2) ((C100_0 T2_50).trans ?_)
  have loop : ∀ k i (u : Value), i + k = ns → e_L (d + 2) 100 2 [.ref 50, .ref 470, .int (e_n (i : Nat)), u] [] (mk I z) = some (.inl (some (.int (tf (al (seC B S n (I 532)) k i = true)))), mk I z) := by
    intro k
    induction k with
    | zero =>
      intro i u hi
      rw [C100_2 T2_50, h4, if_neg (by rw [e_n_ltN (by omega) (by omega)]; omega)]
      rfl
    | succ k ih =>
      intro i u hi
      obtain ⟨⟨a1, p, hp, a2⟩, ⟨b1, j, hj, b2⟩, c1, -⟩ := hs i (by omega)
      have h8 : i < 8 := by omega
      have w1 : rd I (50 + 7) (e_n (i : Nat)) = e_n (p : Nat) := by rw [rd_N (r := 50 + 7) (k := i) h8]; exact a1.trans a2
      have w2 : rd I (50 + 8) (e_n (i : Nat)) = e_n (j : Nat) := by rw [rd_N (r := 50 + 8) (k := i) h8]; exact b1.trans b2
      have w3 : rd I (50 + 9) (e_n (i : Nat)) = I 532 (3 * i + 2) := by rw [rd_N (r := 50 + 9) (k := i) h8]; exact c1
      have wl : (if e_n (j : Nat) < I 470 7 then rd I 480 (e_n (j : Nat)) else I 471 1) = LB B S n j := by
        unfold LB
        rw [hF.2.1]
        by_cases hjn : j < n
        · rw [if_pos (by rw [e_n_ltN (by omega) (by omega)]; exact hjn), if_pos hjn, rd_N (r := 480) (k := j) hj, (hF.2.2.2.2.2.2.2 j hjn hj).2]
        · rw [if_neg (by rw [e_n_ltN (by omega) (by omega)]; exact hjn), if_neg hjn]; exact hF.1.2.1
      have hse : seC B S n (I 532) i = decide (tf (bt (LB B S n j) p = true) = I 532 (3 * i + 2)) := by
        unfold seC; rw [a2, b2, e_n_nat' (by omega), e_n_nat' (by omega)]
      rw [C100_2 T2_50, h4, if_pos (by rw [e_n_ltN (by omega) (by omega)]; omega), w1, w2, w3, wl, tf_bit (by omega)]
      unfold al
      rw [hse]
      by_cases hc : tf (bt (LB B S n j) p = true) = I 532 (3 * i + 2)
      · rw [if_pos hc, e_n_succ, ih (i + 1) _ (by omega), decide_eq_true hc, Bool.true_and]
      · rw [if_neg hc, decide_eq_false hc, Bool.false_and]; rfl
  exact loop ns 0 .null (by omega)
theorem c239h {d n i : Nat} {I : Nat → Nat → Int32} {z : e_Z} {B : e_B} {S : e_T} (wb4 : bPe B ≤ 9) (hn : n ≤ 30) (hv : v236 I = e_n (n : Nat)) (hp : I 489 4 = e_n (bPe B : Nat)) (hF : RF I 525 S n) (hl : 0 < n → S 7 (n - 1) = lm B (S 0)) (hi : i < 30) : e_E (d + 3) 239 [.ref 489, .int (e_n (i : Nat))] (mk I z) = some (.inl (some (.int (LB B S n i))), mk I z) := by
  refine e_E_ret (d := d + 2) ?_
  show e_L (d + 2) 239 0 [.ref 489, .int (e_n (i : Nat)), .null] [] (mk I z) = _
  have e0 : (e_n (n : Nat) = (0 : Int32)) = (n = 0) := by rw [show (0 : Int32) = e_n ((0 : Nat) : Nat) from rfl, e_n_inj (by omega) (by omega) (by omega) (by omega)]; apply propext; omega
  have hlt : (e_n (i : Nat) < e_n (n : Nat)) = (i < n) := e_n_ltN (by omega) (by omega)
  have hn1 : 0 < n → e_n (n : Nat) - e_n 1 = e_n ((n - 1 : Nat) : Nat) := fun h => by rw [e_n_sub]; congr 1; omega
  rw [C239_0 (fun h1 h2 => InR_n (by omega) (by omega) (by omega)) (fun h1 h2 => by
    rw [hv] at h1 ⊢
    have : 0 < n := Nat.pos_of_ne_zero (fun q => h1 (e0.mpr q))
    rw [hn1 this]; exact InR_n (by omega) (by omega) (by omega)), hv]
  by_cases h0 : n = 0
  · rw [if_pos (e0.mpr h0), c223h (B := B) (M := S 0) R2_525 wb4 hp hF.1, e_rI_i, C239_17]
    unfold LB
    rw [if_neg (by omega)]
  · have hpos : 0 < n := Nat.pos_of_ne_zero h0
    rw [if_neg (fun q => h0 (e0.mp q))]
    unfold LB
    by_cases h : i < n
    · rw [if_pos (hlt.mpr h), if_pos h, e_n_nat' (by omega), (hF.2.2.2.2.2.2 i h).2.2]
    · rw [if_neg (fun q => h (hlt.mp q)), if_neg h, hn1 hpos, e_n_nat' (by omega), (hF.2.2.2.2.2.2 (n - 1) (by omega)).2.2, hl hpos]
theorem c279h {d n ns : Nat} {I : Nat → Nat → Int32} {z : e_Z} {B : e_B} {S : e_T} (wb : WB B) (hn : n ≤ 30) (hv : v236 I = e_n (n : Nat)) (hp : I 489 4 = e_n (bPe B : Nat)) (hF : RF I 525 S n) (hl : 0 < n → S 7 (n - 1) = lm B (S 0)) (h76 : I 489 76 = e_n (ns : Nat)) (hns : ns ≤ 8) (hs : ∀ k, k < ns → (∃ p : Nat, p < bPe B ∧ I 532 (3 * k) = e_n (p : Nat)) ∧ (∃ i : Nat, i < 30 ∧ I 532 (3 * k + 1) = e_n (i : Nat))) :
    e_E (d + 4) 279 [.ref 489] (mk I z) = some (.inl (some (.int (tf (al (seC B S n (I 532)) ns 0 = true)))), mk I z) := by
  have wb4 : bPe B ≤ 9 := wb.2.2.2.1
  refine e_E_ret (d := d + 3) ?_
  show e_L (d + 3) 279 0 [.ref 489, .null] [] (mk I z) = _
  rw [C279_0]
  have loop : ∀ k i, i + k = ns → e_L (d + 3) 279 2 [.ref 489, .int (e_n (i : Nat))] [] (mk I z) = some (.inl (some (.int (tf (al (seC B S n (I 532)) k i = true)))), mk I z) := by
    intro k
    induction k with
    | zero =>
      intro i hi
      rw [C279_2 (fun h => absurd h (by rw [h76, e_n_ltN (by omega) (by omega)]; omega)), h76, if_neg (by rw [e_n_ltN (by omega) (by omega)]; omega)]
      rfl
    | succ k ih =>
      intro i hi
      obtain ⟨⟨p, hpp, a2⟩, ⟨j, hj, b2⟩⟩ := hs i (by omega)
      have j0 : e_n 3 * e_n (i : Nat) = e_n ((3 * i : Nat) : Nat) := by rw [e_n_mul]; congr 1
      have j1 : e_n ((3 * i : Nat) : Nat) + e_n 1 = e_n ((3 * i + 1 : Nat) : Nat) := e_n_succ _
      have j2 : e_n ((3 * i : Nat) : Nat) + e_n 2 = e_n ((3 * i + 2 : Nat) : Nat) := by rw [e_n_add]; congr 1
      have hse : seC B S n (I 532) i = decide (tf (bt (LB B S n j) p = true) = I 532 (3 * i + 2)) := by
        unfold seC; rw [a2, b2, e_n_nat' (by omega), e_n_nat' (by omega)]
      rw [C279_2 (fun _ => by rw [j0, j1]; exact InR_n (by omega) (by omega) (by omega)), h76, if_pos (by rw [e_n_ltN (by omega) (by omega)]; omega), j0, j1, e_n_nat' (by omega), b2, c239h (S := S) (n := n) wb4 hn hv hp hF hl hj, e_rI_i, C279_24 (by rw [j0]; exact InR_n (by omega) (by omega) (by omega)) (by rw [j0, j2]; exact InR_n (by omega) (by omega) (by omega)), j0, j2, e_n_nat' (by omega), e_n_nat' (by omega), a2, shr_val _ (show p < 32 by omega)]
      unfold al
      rw [hse]
      by_cases hc : tf (bt (LB B S n j) p = true) = I 532 (3 * i + 2)
      · rw [if_pos hc, e_n_succ, ih (i + 1) (by omega), decide_eq_true hc, Bool.true_and]
      · rw [if_neg hc, decide_eq_false hc, Bool.false_and]; rfl
  exact loop ns 0 (by omega)
-- a name put in by the scribe
def wiF (B : e_B) (M : Nat → Int32) (n p c : Nat) : Bool := decide (c < n ∧ foS B M c 0 (4 + p) = e_n (-1))
def wiS (B : e_B) (M : Nat → Int32) (n p c : Nat) : e_T := if wiF B M n p c then itr (moS B (e_n (-1))) (n - c) c (entS (foS B M c) p (e_n (-2))) else foS B M n
theorem hk_sc {c k p : Nat} (hk : k < 1000) (hc : c < 1000) (hp : p < 1000) (S : e_T) : hkS (e_n (-1)) (e_n (p : Nat)) (e_n (c : Nat)) k S = if c = k ∧ S 0 (4 + p) = e_n (-1) then entS S p (e_n (-2)) else S := by
  unfold hkS
  have h : ¬ e_n (-1) = e_n (k : Nat) := fun h => e_n_neg1 (by omega) h.symm
  have hck : (e_n (c : Nat) = e_n (k : Nat)) = (c = k) := by rw [e_n_inj (by omega) (by omega) (by omega) (by omega)]; apply propext; omega
  rw [if_neg h, e_n_nat' (by omega)]
  by_cases h2 : c = k ∧ S 0 (4 + p) = e_n (-1)
  · rw [if_pos ⟨hck.mpr h2.1, h2.2⟩, if_pos h2]
  · rw [if_neg (fun q => h2 ⟨hck.mp q.1, q.2⟩), if_neg h2]
theorem rn_sc {B : e_B} {M : Nat → Int32} {n c p : Nat} (hn : n ≤ 30) (hc : c < 1000) (hp : p < 1000) : itr (rn1 B (e_n (-1)) (e_n (-1)) (e_n (p : Nat)) (e_n (c : Nat))) n 0 (begS M) = wiS B M n p c := by
  unfold wiS
  have hno : ∀ k S, k < 1000 → (¬ c = k ∨ ¬ S 0 (4 + p) = e_n (-1)) → rn1 B (e_n (-1)) (e_n (-1)) (e_n (p : Nat)) (e_n (c : Nat)) k S = moS B (e_n (-1)) k S := by
    intro k S hk h
    unfold rn1
    rw [hk_sc hk hc hp, if_neg (fun q => h.elim (fun w => w q.1) (fun w => w q.2))]
  have h1 : c ≤ n → itr (rn1 B (e_n (-1)) (e_n (-1)) (e_n (p : Nat)) (e_n (c : Nat))) c 0 (begS M) = foS B M c := by
    intro hcn
    unfold foS
    exact itr_cgr c 0 _ (fun j s _ hj => hno j s (by omega) (Or.inl (by omega)))
  by_cases h : c < n
  · obtain ⟨r, hr⟩ : ∃ r, n = c + (r + 1) := ⟨n - c - 1, by omega⟩
    by_cases hu : foS B M c 0 (4 + p) = e_n (-1)
    · rw [if_pos (show wiF B M n p c = true from decide_eq_true ⟨h, hu⟩), hr, itr_add, h1 (by omega), Nat.zero_add, show c + (r + 1) - c = r + 1 by omega]
      show itr _ r (c + 1) (rn1 B (e_n (-1)) (e_n (-1)) (e_n (p : Nat)) (e_n (c : Nat)) c (foS B M c)) = itr _ r (c + 1) (moS B (e_n (-1)) c (entS (foS B M c) p (e_n (-2))))
      rw [show rn1 B (e_n (-1)) (e_n (-1)) (e_n (p : Nat)) (e_n (c : Nat)) c (foS B M c) = moS B (e_n (-1)) c (entS (foS B M c) p (e_n (-2))) from by unfold rn1; rw [hk_sc (by omega) hc hp, if_pos ⟨rfl, hu⟩]]
      exact itr_cgr r (c + 1) _ (fun j s h1 h2 => hno j s (by omega) (Or.inl (by omega)))
    · rw [if_neg (show ¬ wiF B M n p c = true from fun q => hu (of_decide_eq_true q).2), hr, itr_add, h1 (by omega), Nat.zero_add]
      have h2 : foS B M (c + (r + 1)) = itr (moS B (e_n (-1))) (r + 1) c (foS B M c) := by
        unfold foS; rw [itr_add, Nat.zero_add]
      rw [h2]
      show itr _ r (c + 1) (rn1 B (e_n (-1)) (e_n (-1)) (e_n (p : Nat)) (e_n (c : Nat)) c (foS B M c)) = itr _ r (c + 1) (moS B (e_n (-1)) c (foS B M c))
      rw [hno c _ (by omega) (Or.inr hu)]
      exact itr_cgr r (c + 1) _ (fun j s h1 h2 => hno j s (by omega) (Or.inl (by omega)))
  · rw [if_neg (show ¬ wiF B M n p c = true from fun q => h (of_decide_eq_true q).1)]
    unfold foS
    exact itr_cgr n 0 _ (fun j s _ hj => hno j s (by omega) (Or.inl (by omega)))
theorem fl_no {B : e_B} {sk cl sn sm : Int32} : ∀ n i S v, (∀ j, i ≤ j → j < i + n → ¬ sm = e_n (j : Nat)) → flS B sk cl sn sm n i S v = v
  | 0, _, _, _, _ => rfl
  | n + 1, i, S, v, h => by
    unfold flS
    rw [if_neg (fun q => h i (Nat.le_refl _) (by omega) q.1)]
    exact fl_no n (i + 1) _ v (fun j h1 h2 => h j (by omega) (by omega))
theorem fl_add {B : e_B} {sk cl sn sm : Int32} : ∀ a b i S v, flS B sk cl sn sm (a + b) i S v = flS B sk cl sn sm b (i + a) (itr (rn1 B sk cl sn sm) a i S) (flS B sk cl sn sm a i S v)
  | 0, b, i, S, v => by rw [Nat.zero_add]; rfl
  | a + 1, b, i, S, v => by
    rw [show a + 1 + b = a + b + 1 by omega]
    show flS B sk cl sn sm (a + b) (i + 1) _ _ = flS B sk cl sn sm b (i + (a + 1)) (itr (rn1 B sk cl sn sm) a (i + 1) _) (flS B sk cl sn sm a (i + 1) _ _)
    rw [fl_add a b (i + 1), show i + 1 + a = i + (a + 1) by omega]
theorem fl_sc {B : e_B} {M : Nat → Int32} {n c p : Nat} {v : Int32} (hn : n ≤ 30) (hc : c < 1000) (hp : p < 1000) : flS B (e_n (-1)) (e_n (-1)) (e_n (p : Nat)) (e_n (c : Nat)) n 0 (begS M) v = if wiF B M n p c then e_n 1 else v := by
  have hne : ∀ j, j < 1000 → ¬ c = j → ¬ e_n (c : Nat) = e_n (j : Nat) := fun j hj h q => h (by rw [e_n_inj (by omega) (by omega) (by omega) (by omega)] at q; omega)
  by_cases h : c < n
  · obtain ⟨r, hr⟩ : ∃ r, n = c + (r + 1) := ⟨n - c - 1, by omega⟩
    have h1 : itr (rn1 B (e_n (-1)) (e_n (-1)) (e_n (p : Nat)) (e_n (c : Nat))) c 0 (begS M) = foS B M c := by
      unfold foS
      exact itr_cgr c 0 _ (fun j s _ hj => by unfold rn1; rw [hk_sc (by omega) hc hp, if_neg (fun q => by omega)])
    rw [hr, fl_add, h1, fl_no c 0 _ v (fun j _ hj => hne j (by omega) (by omega)), Nat.zero_add]
    show flS B _ _ _ _ r (c + 1) _ (if e_n (c : Nat) = e_n (c : Nat) ∧ foS B M c 0 (4 + (e_n (p : Nat)).toNatClampNeg) = e_n (-1) then e_n 1 else v) = _
    rw [fl_no r (c + 1) _ _ (fun j h1 h2 => hne j (by omega) (by omega)), e_n_nat' (by omega), ← hr]
    by_cases hu : foS B M c 0 (4 + p) = e_n (-1)
    · rw [if_pos ⟨rfl, hu⟩, if_pos (show wiF B M n p c = true from decide_eq_true ⟨h, hu⟩)]
    · rw [if_neg (fun q => hu q.2), if_neg (show ¬ wiF B M n p c = true from fun q => hu (of_decide_eq_true q).2)]
  · rw [fl_no n 0 _ v (fun j _ hj => hne j (by omega) (by omega)), if_neg (show ¬ wiF B M n p c = true from fun q => h (of_decide_eq_true q).1)]
theorem last7 {B : e_B} {sk : Int32} {k n : Nat} {S : e_T} (wb4 : bPe B ≤ 9) (hn : 0 < n) (hk : k + n ≤ 30) : itr (moS B sk) n k S 7 (k + n - 1) = lm B (itr (moS B sk) n k S 0) := by
  obtain ⟨r, rfl⟩ : ∃ r, n = r + 1 := ⟨n - 1, by omega⟩
  rw [itr_succ, show k + (r + 1) - 1 = k + r by omega]
  exact (moS_k (sk := sk) (k := k + r) wb4 (by omega)).2.2.1
theorem last_fo {B : e_B} {M : Nat → Int32} {n : Nat} (wb4 : bPe B ≤ 9) (hn : n ≤ 30) (h0 : 0 < n) : foS B M n 7 (n - 1) = lm B (foS B M n 0) := by
  have := last7 (B := B) (sk := e_n (-1)) (k := 0) (n := n) (S := begS M) wb4 h0 (by omega)
  rwa [Nat.zero_add] at this
theorem last_wi {B : e_B} {M : Nat → Int32} {n p c : Nat} (wb4 : bPe B ≤ 9) (hn : n ≤ 30) (h0 : 0 < n) : wiS B M n p c 7 (n - 1) = lm B (wiS B M n p c 0) := by
  unfold wiS
  by_cases h : wiF B M n p c = true
  · rw [if_pos h]
    have hc := (of_decide_eq_true h).1
    have := last7 (B := B) (sk := e_n (-1)) (k := c) (n := n - c) (S := entS (foS B M c) p (e_n (-2))) wb4 (by omega) (by omega)
    rwa [show c + (n - c) - 1 = n - 1 by omega] at this
  · rw [if_neg h]
    exact last_fo wb4 hn h0
/-- the reference writes a name -/
theorem RF_ent {I : Nat → Nat → Int32} {S : e_T} {T p : Nat} {v : Int32} (h : RF I 525 S T) : RF (e_u (e_u I 525 (4 + p) (I 525 0)) 525 (13 + p) v) 525 (entS S p v) T := by
  obtain ⟨f1, f2, f3, f4, f5, f6, f7⟩ := h
  have er : ∀ r, r ≠ 0 → entS S p v r = S r := fun r hr => entr _ _ _ hr
  refine ⟨fun j hj => ?_, ?_, ?_, ?_, ?_, ?_, ?_⟩
  · rw [ent0, e_u_at, e_u_at, f1 j hj, f1 0 (by decide)]
  · rw [e_u_na (by decide), e_u_na (by decide), er 4 (by decide)]; exact f2
  · rw [e_u_na (by decide), e_u_na (by decide), er 4 (by decide)]; exact f3
  · rw [e_u_na (by decide), e_u_na (by decide), er 4 (by decide), er 1 (by decide)]; exact f4
  · rw [e_u_na (by decide), e_u_na (by decide), er 2 (by decide)]; exact f5
  · rw [e_u_na (by decide), e_u_na (by decide), er 3 (by decide)]; exact f6
  · rw [e_u_na (by decide), e_u_na (by decide), e_u_na (by decide), e_u_na (by decide), e_u_na (by decide), e_u_na (by decide), er 5 (by decide), er 6 (by decide), er 7 (by decide)]; exact f7
theorem ws_run {B : e_B} {sk : Int32} {S : e_T} {k t : Nat} (wb : WB B) : ∀ n (k t : Nat) (S : e_T), k + n ≤ 30 → t + n ≤ 60 → WS B S → S 0 0 = e_n (t : Nat) → WS B (itr (moS B sk) n k S) ∧ itr (moS B sk) n k S 0 0 = e_n ((t + n : Nat) : Nat) := by
  intro n
  induction n with
  | zero => intro k t S _ _ ws hd; exact ⟨ws, hd⟩
  | succ n ih =>
    intro k t S hk ht ws hd
    have h := ws_mo (sk := sk) (k := k) wb ws (by omega) (show t < 60 by omega) hd
    have h2 := ih (k + 1) (t + 1) _ (by omega) (by omega) h.1 h.2
    exact ⟨h2.1, by rw [show t + (n + 1) = t + 1 + n by omega]; exact h2.2⟩
theorem ws_beg {B : e_B} {M : Nat → Int32} (wb : WB B) (wm : WM B M) : WS B (begS M) := ⟨wm, 0, rfl, by have := cnt_le (bPe B) (fun p => decide (begS M 0 (4 + p) = e_n (-1))); have : bPe B ≤ 9 := wb.2.2.2.1; omega⟩
theorem WS_ent {B : e_B} {S : e_T} {p : Nat} (wb : WB B) (ws : WS B S) (hp : p < bPe B) (hu : S 0 (4 + p) = e_n (-1)) : WS B (entS S p (e_n (-2))) := by
  have wb4 : bPe B ≤ 9 := wb.2.2.2.1
  obtain ⟨wm, k, hk, hk9⟩ := ws
  have := un_ent (v := e_n (-2)) wb4 wm hp hu
  exact ⟨wm_ent wb4 wm hp (Or.inl rfl), k, by rw [entr _ _ _ (by decide)]; exact hk, by omega⟩
/-- the reference plays with a name put in -/
theorem c280h {d t p c : Nat} {J : Nat → Nat → Int32} {z : e_Z} {B : e_B} {M : Nat → Int32} (H : Rel J z B) (hM : J 515 = M) (ht : t ≤ 60) (hd : M 0 = e_n (t : Nat)) (hp : p < bPe B) (hc : c < 30) : ∃ I2, e_E (d + 7) 280 [.ref 489, .int (e_n (p : Nat)), .int (e_n (c : Nat))] (mk J z) = some (.inl (some (.int (if wiF B M (min 30 (60 - t)) p c then e_n 1 else e_n 0))), mk I2 z) ∧ RfE J I2 ∧ I2 489 0 = J 489 0 ∧ I2 515 = M ∧ (∀ r, r ≠ 489 → (r < 515 ∨ 525 < r) → I2 r = J r) ∧ (wiF B M (min 30 (60 - t)) p c = true → RF I2 525 (wiS B M (min 30 (60 - t)) p c) (min 30 (60 - t))) := by
  have wb := rel_wb H
  have wb4 : bPe B ≤ 9 := wb.2.2.2.1
  have wm : WM B M := by rw [← hM]; exact rel_wm H
  have rb := rel_rb H
  generalize hn : min 30 (60 - t) = n
  have hn30 : n ≤ 30 := by omega
  have hv : v236 J = e_n (n : Nat) := by rw [v236_n ht (by rw [hM]; exact hd), hn]
  have hlt : (e_n (c : Nat) < e_n (n : Nat)) = (c < n) := e_n_ltN (by omega) (by omega)
  by_cases hcn : ¬ c < n
  · have hw : ¬ wiF B M n p c = true := fun q => hcn (of_decide_eq_true q).1
    refine ⟨J, e_E_ret (d := d + 6) ?_, RfE_rf J, rfl, hM, fun _ _ _ => rfl, fun h => absurd h hw⟩
    show e_L (d + 6) 280 0 [.ref 489, .int (e_n (p : Nat)), .int (e_n (c : Nat)), .null] [] (mk J z) = _
    rw [C280_0, hv, if_neg (fun q => hcn (hlt.mp q)), if_neg hw]
  have hcn : c < n := Decidable.not_not.mp hcn
  obtain ⟨I1, a1, a2, a3, a4⟩ := c235h (d := d + 4) (I := J) (z := z) (M := M) (fun j _ => by rw [hM])
  have hv1 : v236 I1 = e_n (n : Nat) := by rw [v236_n ht (by rw [a3 515 (by decide) (by decide) (by decide) (by decide), hM]; exact hd), hn]
  obtain ⟨I2, g1, g2, g3, g4, g5, g6⟩ := c237h (d := d) (r := 525) (f0 := 0) (m0 := c) (t := t) (tr := true) (z := z) (S := begS M) (sk := e_n (-1)) R2_525 wb (by omega) (by simp; omega) (by omega) (RB_fr (fun j _ _ => a4 j (by omega) (by omega)) (fun q q1 q2 => a3 q (by omega) (by omega) (by omega) (by omega)) rb) a2 (ws_beg wb wm) (by rw [a4 61 (by decide) (by decide)]; exact H.2.2.2.1) hd
  have hfo : itr (moS B (e_n (-1))) c 0 (begS M) = foS B M c := rfl
  rw [hfo] at g2 g3 g4
  simp only [if_true, Nat.zero_add] at g2
  have fr2 : ∀ r, r ≠ 489 → ¬ (517 ≤ r ∧ r ≤ 525) → I2 r = J r := fun r h1 h2 => by rw [g5 r (by omega) h1 (by omega) (by omega) (by omega) (by omega) (by omega) (by omega) (by omega) (by omega), a3 r h1 (by omega) (by omega) (by omega)]
  have ff2 : ∀ j, j ≠ 60 → j ≠ 62 → I2 489 j = J 489 j := fun j h1 h2 => by rw [g6 j h1 h2, a4 j h1 h2]
  have i4 : (e_n 4 + e_n (p : Nat)).toNatClampNeg = 4 + p := ix (a := 4) (by omega)
  have i13 : (e_n 13 + e_n (p : Nat)).toNatClampNeg = 13 + p := ix (a := 13) (by omega)
  have gg4 : InR (e_n 4 + e_n (p : Nat)) 34 := ixI (a := 4) (by omega) (by decide)
  have gg13 : InR (e_n 13 + e_n (p : Nat)) 34 := ixI (a := 13) (by omega) (by decide)
  have s1 : e_L (d + 6) 280 0 [.ref 489, .int (e_n (p : Nat)), .int (e_n (c : Nat)), .null] [] (mk J z) = e_L (d + 6) 280 26 [.ref 489, .int (e_n (p : Nat)), .int (e_n (c : Nat)), .int (e_n (n : Nat))] [] (mk I2 z) := by
    rw [C280_0, hv, if_pos (hlt.mpr hcn), a1, e_rV_n, C280_16, show (e_n 0) = e_n ((0 : Nat) : Nat) from rfl, g1, e_rV_n]
  by_cases hu : foS B M c 0 (4 + p) = e_n (-1)
  · have hw : wiF B M n p c = true := decide_eq_true ⟨hcn, hu⟩
    obtain ⟨I3, x1, x2, x3, x4, x5, x6⟩ := c237h (d := d) (r := 525) (f0 := c) (m0 := n - c) (t := t + c) (tr := true) (I := e_u (e_u I2 525 (4 + p) (I2 525 0)) 525 (13 + p) (e_n (-2))) (z := z) (S := entS (foS B M c) p (e_n (-2))) (sk := e_n (-1)) R2_525 wb (by omega) (by simp; omega) (by omega) (RB_fr (fun j h1 h7 => by rw [e_u_na (by decide), e_u_na (by decide), ff2 j (by omega) (by omega)]) (fun q q1 q2 => by rw [e_u_na (by omega), e_u_na (by omega), fr2 q (by omega) (by omega)]) rb) (by simpa using RF_ent g2) (WS_ent wb g3 hp hu) (by rw [e_u_na (by decide), e_u_na (by decide), ff2 61 (by decide) (by decide)]; exact H.2.2.2.1) (by rw [ent0, if_neg (by omega), if_neg (by omega)]; exact g4)
    have hwi : itr (moS B (e_n (-1))) (n - c) c (entS (foS B M c) p (e_n (-2))) = wiS B M n p c := by unfold wiS; rw [if_pos hw]
    rw [hwi] at x2
    simp only [if_true, show c + (n - c) = n from by omega] at x2
    have fr3 : ∀ r, r ≠ 489 → ¬ (517 ≤ r ∧ r ≤ 525) → I3 r = J r := fun r h1 h2 => by rw [x5 r (by omega) h1 (by omega) (by omega) (by omega) (by omega) (by omega) (by omega) (by omega) (by omega), e_u_na (by omega), e_u_na (by omega), fr2 r h1 h2]
    refine ⟨I3, e_E_ret (d := d + 6) (s1.trans ?_), ⟨fun r h1 h2 => fr3 r h1 (fun q => h2 (by unfold ScrR; omega)), fun j hj => ?_⟩, ?_, by rw [fr3 515 (by decide) (by omega), hM], fun r h1 h2 => fr3 r h1 (by omega), fun _ => x2⟩
    · rw [C280_26 gg4 (fun _ => gg13), i4, i13, g2.1 (4 + p) (by omega), if_pos hu, show e_n (n : Nat) - e_n (c : Nat) = e_n ((n - c : Nat) : Nat) from by rw [e_n_sub]; congr 1; omega, x1, e_rV_n, C280_63, if_pos hw]
    · rw [x6 j (fun h => hj (by unfold ScrF; omega)) (fun h => hj (by unfold ScrF; omega)), e_u_na (by decide), e_u_na (by decide), ff2 j (fun h => hj (by unfold ScrF; omega)) (fun h => hj (by unfold ScrF; omega))]
    · rw [x6 0 (by decide) (by decide), e_u_na (by decide), e_u_na (by decide), ff2 0 (by decide) (by decide)]
  · have hw : ¬ wiF B M n p c = true := fun q => hu (of_decide_eq_true q).2
    refine ⟨I2, e_E_ret (d := d + 6) (s1.trans ?_), ⟨fun r h1 h2 => fr2 r h1 (fun q => h2 (by unfold ScrR; omega)), fun j hj => ff2 j (fun h => hj (by unfold ScrF; omega)) (fun h => hj (by unfold ScrF; omega))⟩, ff2 0 (by decide) (by decide), by rw [fr2 515 (by decide) (by omega), hM], fun r h1 h2 => fr2 r h1 (by omega), fun h => absurd h hw⟩
    rw [C280_26 gg4 (fun _ => gg13), i4, g2.1 (4 + p) (by omega), if_neg hu, if_neg hw]
end S94
