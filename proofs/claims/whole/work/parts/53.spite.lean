section S53
theorem small_bits {x : Int32} {n : Nat} (hn : n ≤ 31) (h : ∀ i, n ≤ i → bt x i = false) : ∃ k : Nat, k < 2 ^ n ∧ x = e_n (k : Nat) := by
  refine ⟨x.toBitVec.toNat, Nat.lt_pow_two_of_testBit _ (fun i hi => h i hi), ?_⟩
  rw [← e_n_of]
  apply Int32.toBitVec.inj
  show x.toBitVec = BitVec.ofNat 32 x.toBitVec.toNat
  rw [BitVec.ofNat_toNat, BitVec.setWidth_eq]
theorem v329_I (I : Nat → Nat → Int32) : v329 I = v329 (fun _ _ => 0) := by
  unfold v329; rfl
theorem v329_bc {I : Nat → Nat → Int32} {x : Int32} (h : ∀ i, 9 ≤ i → bt x i = false) : v329 I x = bc x := by
  obtain ⟨k, hk, rfl⟩ := small_bits (n := 9) (by decide) h
  have : ∀ k : Fin 512, v329 (fun _ _ => 0) (e_n (k.val : Nat)) = bc (e_n (k.val : Nat)) := by decide +kernel
  rw [v329_I]
  exact this ⟨k, hk⟩
theorem lm_msk (B : e_B) (M : Nat → Int32) : lm B M = msk (bPe B) (fun p => !decide (M (4 + p) = e_n (-1))) := by
  unfold lm msk
  apply itr_congr
  intro i s hi
  by_cases h : M (4 + i) = e_n (-1) <;> simp [h]
theorem bt_lm {B : e_B} (hp : bPe B ≤ 9) (M : Nat → Int32) (i : Nat) : bt (lm B M) i = (decide (i < bPe B) && !decide (M (4 + i) = e_n (-1))) := by
  rw [lm_msk, bt_msk (by omega)]
theorem bc_cnt (x : Int32) : bc x = e_n (cnt 9 (bt x) : Nat) := by
  have := itr_inv (fun k q => q = e_n (cnt k (bt x) : Nat)) (n := 9) (f := fun i q => q + (e_shr x (e_n (i : Nat)) &&& e_n 1)) (s := e_n 0) rfl (by
    intro k s hk ih
    rw [shr_val x (by omega), ih, cnt_succ]
    unfold tf
    cases bt x k
    · simp [e_n_add]
    · simp [e_n_add])
  exact this
theorem lnb2 {b : Nat} (hb : B2 b) : ln (b + 2) = 8 := by rcases hb with rfl | rfl <;> rfl
theorem lnb3 {b : Nat} (hb : B2 b) : ln (b + 3) = 12 := by rcases hb with rfl | rfl <;> rfl
theorem lnb4 {b : Nat} (hb : B2 b) : ln (b + 4) = 12 := by rcases hb with rfl | rfl <;> rfl
theorem lnb5 {b : Nat} (hb : B2 b) : ln (b + 5) = 12 := by rcases hb with rfl | rfl <;> rfl
theorem lnb6 {b : Nat} (hb : B2 b) : ln (b + 6) = 8 := by rcases hb with rfl | rfl <;> rfl
theorem lnb7 {b : Nat} (hb : B2 b) : ln (b + 7) = 8 := by rcases hb with rfl | rfl <;> rfl
theorem lnb12 {b : Nat} (hb : B2 b) : ln (b + 12) = 3 := by rcases hb with rfl | rfl <;> rfl
theorem lnb13 {b : Nat} (hb : B2 b) : ln (b + 13) = 3 := by rcases hb with rfl | rfl <;> rfl
theorem lnb14 {b : Nat} (hb : B2 b) : ln (b + 14) = 3 := by rcases hb with rfl | rfl <;> rfl
theorem lnb15 {b : Nat} (hb : B2 b) : ln (b + 15) = 9 := by rcases hb with rfl | rfl <;> rfl
theorem lnb16 {b : Nat} (hb : B2 b) : ln (b + 16) = 9 := by rcases hb with rfl | rfl <;> rfl
theorem lnb17 {b : Nat} (hb : B2 b) : ln (b + 17) = 9 := by rcases hb with rfl | rfl <;> rfl
theorem lnb18 {b : Nat} (hb : B2 b) : ln (b + 18) = 12 := by rcases hb with rfl | rfl <;> rfl
theorem lnb19 {b : Nat} (hb : B2 b) : ln (b + 19) = 12 := by rcases hb with rfl | rfl <;> rfl
theorem lna1 {a : Nat} (ha : M3 a) : ln (a + 1) = 9 := by rcases ha with rfl | rfl | rfl <;> rfl
theorem lna2 {a : Nat} (ha : M3 a) : ln (a + 2) = 9 := by rcases ha with rfl | rfl | rfl <;> rfl
theorem lna3 {a : Nat} (ha : M3 a) : ln (a + 3) = 9 := by rcases ha with rfl | rfl | rfl <;> rfl
theorem lna4 {a : Nat} (ha : M3 a) : ln (a + 4) = 3 := by rcases ha with rfl | rfl | rfl <;> rfl
theorem M3_ge {a : Nat} (h : M3 a) : 51 ≤ a ∧ a ≤ 484 := by rcases h with rfl | rfl | rfl <;> omega
theorem setf {I : Nat → Nat → Int32} {b k : Nat} {x v : Int32} (hb : B2 b) (hk : k < 8) (hx : e_n (-1) - x = e_n (k : Nat)) : wr I (b + 10) (e_n (-1) - x) v = e_u I (b + 10) k v := by
  rw [hx, wr_N (by rw [ln_b10 hb]; exact hk)]
theorem tf_bit {x : Int32} {p : Nat} (hp : p < 32) : tf (¬ (x &&& e_shl (e_n 1) (e_n (p : Nat)) = 0)) = tf (bt x p = true) := by
  have h := and_bit x hp
  unfold tf
  by_cases hx : x &&& e_shl (e_n 1) (e_n (p : Nat)) = 0
  · have h2 : bt x p = false := h ▸ hx
    simp [hx, h2]
  · have h2 : bt x p = true := by
      cases hq : bt x p with
      | true => rfl
      | false => exact absurd (h ▸ hq) hx
    simp [hx, h2]
/-- what writes gives -/
theorem c55h {d : Nat} {I : Nat → Nat → Int32} {z : e_Z} {a b m p : Nat} {B : e_B} {M : Nat → Int32} (hb : B2 b) (ha : M3 a) (hB : BrC I b B) (hM : MoC I a B M) (wb : WB B) (hm : m < bMa B) (hp : p < bPe B) :
    ∃ I', e_E (d + 3) 55 [.ref a, .ref b, .int (e_n (m : Nat)), .int (e_n (p : Nat))] (mk I z) = some (.inl (some (.int (grS B M m p))), mk I' z) ∧ ∀ q, q ≠ b + 10 → q ≠ b + 11 → I' q = I q := by
  have hbl := B2_le hb
  have hag := M3_ge ha
  have wb1 : bMa B ≤ 3 := wb.1
  have wb4 : bPe B ≤ 9 := wb.2.2.2.1
  have wb8 : (bO B).length ≤ 700 := wb.2.2.2.2.2.2.2.2.2.2.2.1
  have wb9 : bO B = [] ∨ okO (bO B) 0 = true := wb.2.2.2.2.2.2.2.2.2.2.2.2.1
  have wb10 : ∀ i, bPe B ≤ i → bt (bR B 6 p) i = false := (wb.2.2.2.2.2.2.2.2.1 p hp).2.2
  obtain ⟨-, -, -, -, -, -, -, -, hg, hf, -, ho, hc⟩ := hB
  obtain ⟨m0, m1, -, m3, -, -, -, m8⟩ := hM
  have v0 : rd I (b + 15) (e_n (p : Nat)) = bR B 5 p := by rw [rd_N (by rw [lnb15 hb]; omega)]; exact (hg p hp).1
  have v1 : rd I (a + 4) (e_n (m : Nat)) = M (31 + m) := by rw [rd_N (by rw [lna4 ha]; omega)]; exact m8 m hm
  have v2 : rd I (b + 14) (e_n (m : Nat)) = fm B (e_n (m : Nat)) (e_n 0) := by rw [rd_N (by rw [lnb14 hb]; omega)]; exact (hf m hm).2.1
  have v3 : rd I (b + 13) (e_n (m : Nat)) = fm B (e_n (m : Nat)) (e_n 1) := by rw [rd_N (by rw [lnb13 hb]; omega)]; exact (hf m hm).1
  have v4 : rd I (b + 17) (e_n (p : Nat)) = bR B 6 p := by rw [rd_N (by rw [lnb17 hb]; omega)]; exact (hg p hp).2.1
  have hl9 : ∀ i, 9 ≤ i → bt (lm B M) i = false := fun i hi => by rw [bt_lm wb4]; simp; omega
  have hk9 : ∀ i, 9 ≤ i → bt (bR B 6 p &&& lm B M) i = false := fun i hi => by rw [bt_and, hl9 i hi, Bool.and_false]
  suffices h : ∃ I', e_L (d + 2) 55 0 [.ref a, .ref b, .int (e_n (m : Nat)), .int (e_n (p : Nat)), .null] [] (mk I z) = some (.inl (some (.int (grS B M m p))), mk I' z) ∧ ∀ q, q ≠ b + 10 → q ≠ b + 11 → I' q = I q by
    obtain ⟨I', h1, h2⟩ := h
    exact ⟨I', e_E_ret (d := d + 2) h1, h2⟩
  by_cases hn : bO B = []
  · refine ⟨I, ?_, fun _ _ _ => rfl⟩
    rw [C55_0 hb ha, ho, hn, if_neg (by decide), v0]
    unfold grS
    rw [if_pos hn]
  · have hpos : 0 < (bO B).length := Nat.pos_of_ne_zero (fun h => hn (List.eq_nil_of_length_eq_zero h))
    rw [C55_0 hb ha, ho, if_pos (by rw [show (0 : Int32) = e_n ((0 : Nat) : Nat) from rfl, e_n_ltN (by omega) (by omega)]; exact hpos)]
    rw [c90 hb, setf hb (k := 0) (by decide) (by decide), e_rV_n, C55_37 hb ha, c90 hb, setf hb (k := 1) (by decide) (by decide), e_rV_n, C55_52 hb ha, c90 hb, setf hb (k := 2) (by decide) (by decide), e_rV_n, C55_79 hb ha, c90 hb, setf hb (k := 3) (by decide) (by decide), e_rV_n, C55_106 hb ha, c329, e_rI_i, C55_126 hb ha, c90 hb, setf hb (k := 4) (by decide) (by decide), e_rV_n, C55_129 hb ha, c329, e_rI_i, C55_140 hb ha, c90 hb, setf hb (k := 5) (by decide) (by decide), e_rV_n, C55_143 hb ha, c90 hb, setf hb (k := 6) (by decide) (by decide), e_rV_n, C55_154 hb ha, c90 hb, setf hb (k := 7) (by decide) (by decide), e_rV_n, C55_165 hb ha]
    simp (disch := omega) only [rd_u, e_u_na, v0, v1, v2, v3, v4, m0, m1, m3, v329_bc hl9, v329_bc hk9, tf_bit (x := fm B (e_n (m : Nat)) (e_n 0)) (show p < 32 by omega), tf_bit (x := fm B (e_n (m : Nat)) (e_n 1)) (show p < 32 by omega)]
    have hok := wb9.resolve_left hn
    generalize hJ : (e_u (e_u (e_u (e_u (e_u (e_u (e_u (e_u I (b + 10) 0 (bR B 5 p)) (b + 10) 1 (M (31 + m))) (b + 10) 2 (tf (bt (fm B (e_n (m : Nat)) (e_n 0)) p = true))) (b + 10) 3 (tf (bt (fm B (e_n (m : Nat)) (e_n 1)) p = true))) (b + 10) 4 (bc (bR B 6 p &&& lm B M))) (b + 10) 5 (bc (lm B M))) (b + 10) 6 (M 0)) (b + 10) 7 (M 2)) = J
    have hJq : ∀ q, q ≠ b + 10 → J q = I q := fun q hq => by subst hJ; simp (disch := exact hq) only [e_u_na]
    have hJ8 : ∀ k, k < 8 → J (b + 10) k = fct B M m p k := by
      intro k hk
      subst hJ
      match k, hk with
      | 0, _ => simp [e_u_at, fct]
      | 1, _ => simp [e_u_at, fct]
      | 2, _ => simp [e_u_at, fct]
      | 3, _ => simp [e_u_at, fct]
      | 4, _ => simp [e_u_at, fct]
      | 5, _ => simp [e_u_at, fct]
      | 6, _ => simp [e_u_at, fct]
      | 7, _ => simp [e_u_at, fct]
    obtain ⟨I', h1, h2⟩ := c91h (d := d) (z := z) hb (fct B M m p) (bO B) wb8 (bO B) 0 [] J .null (by omega) (by rw [hJq _ (by omega)]; exact ho) (fun j hj => by rw [hJq _ (by omega), Nat.zero_add]; exact hc j hj) hJ8 hok (by simp) (fun k hk => absurd hk (by simp))
    refine ⟨I', ?_, fun q h10 h11 => by rw [h2 q h11, hJq q h10]⟩
    have h3 : e_E (d + 2) 91 [.ref (b + 8)] (mk J z) = some (.inl (some (.int ((ev (fct B M m p) (bO B) []).headD 0))), mk I' z) := e_E_ret (d := d + 1) ((C91_0 hb).trans h1)
    rw [h3, e_rI_i, C55_170 hb ha]
    unfold grS
    rw [if_neg hn]
end S53
