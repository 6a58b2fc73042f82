/-! what the blocks' composites stand on -/
section BA
def kd (a : Nat) : Nat := (shp a).1
def ln (a : Nat) : Nat := (shp a).2
theorem bd_B2 (s : Bool) : B2 (bd s) := by cases s <;> simp [bd, B2]
theorem B2_bd (s : Bool) : B2 (bd s) := bd_B2 s
theorem M3_51 : M3 51 := Or.inl rfl
theorem M3_471 : M3 471 := Or.inr (Or.inl rfl)
theorem M3_484 : M3 484 := Or.inr (Or.inr rfl)
theorem T2_50 : T2 50 := Or.inl rfl
theorem T2_260 : T2 260 := Or.inr rfl
theorem R2_515 : R2 515 := Or.inl rfl
theorem R2_525 : R2 525 := Or.inr rfl
theorem e_k_mk {I : Nat → Nat → Int32} {z : e_Z} {a : Nat} : e_k (mk I z) a = if 1 ≤ a ∧ a ≤ 538 then kd a else 0 := rfl
theorem e_l_mk {I : Nat → Nat → Int32} {z : e_Z} {a : Nat} : e_l (mk I z) a = ln a := rfl
theorem kd_pos {a k : Nat} (h : kd a = k) (hk : k ≠ 0) : 1 ≤ a ∧ a ≤ 538 := by
  refine ⟨?_, ?_⟩
  · cases a with
    | zero => exact absurd h.symm hk
    | succ a => omega
  · apply Decidable.byContradiction
    intro hn
    have hb : ∀ k, k ≤ 539 → Nat.blt a k = false := fun k hk => by
      rw [← Bool.not_eq_true, Nat.blt_eq]; omega
    have : shp a = (0, 0) := by
      unfold shp
      simp (disch := decide) only [hb, cond_false]
    unfold kd at h
    rw [this] at h
    exact hk h.symm
theorem ln_le (a : Nat) : ln a ≤ 2700 := by
  rcases Nat.lt_or_ge a 539 with h | hn
  · have : ∀ a, a < 539 → (shp a).2 ≤ 2700 := by decide +kernel
    exact this a h
  · have hb : ∀ k, k ≤ 539 → Nat.blt a k = false := fun k hk => by
      rw [← Bool.not_eq_true, Nat.blt_eq]; omega
    have : shp a = (0, 0) := by
      unfold shp
      simp (disch := decide) only [hb, cond_false]
    unfold ln
    rw [this]
    exact Nat.zero_le _
theorem e_k_kd {I : Nat → Nat → Int32} {z : e_Z} {a k : Nat} (h : kd a = k) (hk : k ≠ 0) : e_k (mk I z) a = k := by
  rw [e_k_mk, if_pos (kd_pos h hk), h]
def InR (i : Int32) (n : Nat) : Prop := ¬ (i < 0 ∨ n ≤ i.toNatClampNeg)
theorem ck_ok {i : Int32} {n : Nat} (h : InR i n) (x : e_X) : ck i n x = x := if_neg h
theorem e_al_mk {α : Type} {I : Nat → Nat → Int32} {z : e_Z} {a : Nat} (h : kd a = 20) (K : Int32 → Option α) : e_al (mk I z) a K = K (Int32.ofNat (ln a)) := by
  unfold e_al
  rw [e_k_kd h (by decide), if_pos (by decide)]; rfl
theorem e_ia_mk {I : Nat → Nat → Int32} {z : e_Z} {a : Nat} {i : Int32} (h : kd a = 20) (K : Int32 → e_X) : e_ia (mk I z) a i K = ck i (ln a) (K (I a i.toNatClampNeg)) := by
  unfold e_ia ck
  rw [e_k_kd h (by decide), if_pos rfl]; rfl
theorem e_za_mk {I : Nat → Nat → Int32} {z : e_Z} {a : Nat} {i : Int32} (h : kd a = 21) (K : Int32 → e_X) : e_za (mk I z) a i K = ck i (ln a) (K (I a i.toNatClampNeg)) := by
  unfold e_za ck
  rw [e_k_kd h (by decide), if_pos rfl]; rfl
theorem e_is_mk {I : Nat → Nat → Int32} {z : e_Z} {a : Nat} {i v : Int32} (h : kd a = 20) (K : e_S → e_X) : e_is (mk I z) a i v K = ck i (ln a) (K (mk (e_u I a i.toNatClampNeg v) z)) := by
  unfold e_is ck
  rw [e_k_kd h (by decide), if_pos rfl]; rfl
theorem e_exc_mk {I : Nat → Nat → Int32} {z : e_Z} : e_exc (mk I z) = mk I (zx z) := rfl
def rd (I : Nat → Nat → Int32) (r : Nat) (i : Int32) : Int32 := if i < 0 ∨ ln r ≤ i.toNatClampNeg then 0 else I r i.toNatClampNeg
def wr (I : Nat → Nat → Int32) (r : Nat) (i v : Int32) : Nat → Nat → Int32 := if i < 0 ∨ ln r ≤ i.toNatClampNeg then I else e_u I r i.toNatClampNeg v
/-- a row anew -/
def upR (I : Nat → Nat → Int32) (r : Nat) (f : Nat → Int32) : Nat → Nat → Int32 := fun b => if b = r then f else I b
theorem e_u_up {I : Nat → Nat → Int32} {a k : Nat} {v : Int32} : e_u I a k v = upR I a (fun j => if j = k then v else I a j) := rfl
theorem upR_same {I : Nat → Nat → Int32} {r : Nat} {f : Nat → Int32} : upR I r f r = f := if_pos rfl
theorem upR_ne {I : Nat → Nat → Int32} {r b : Nat} {f : Nat → Int32} (h : b ≠ r) : upR I r f b = I b := if_neg h
theorem upR_up {I : Nat → Nat → Int32} {r : Nat} {f g : Nat → Int32} : upR (upR I r f) r g = upR I r g := by
  funext b; unfold upR; by_cases h : b = r <;> simp [h]
theorem upR_id {I : Nat → Nat → Int32} {r : Nat} {f : Nat → Int32} (h : ∀ j, f j = I r j) : upR I r f = I := by
  funext b j; unfold upR; by_cases hb : b = r
  · subst hb; simp [h]
  · simp [hb]
theorem e_u_na {I : Nat → Nat → Int32} {a k b : Nat} {v : Int32} (h : b ≠ a) : e_u I a k v b = I b := if_neg h
theorem e_u_at {I : Nat → Nat → Int32} {a k j : Nat} {v : Int32} : e_u I a k v a j = if j = k then v else I a j := by simp [e_u]
-- ints
theorem e_n_toInt {a : Int} (h1 : -2147483648 ≤ a) (h2 : a < 2147483648) : (e_n a).toInt = a := Int32.toInt_ofInt_of_le h1 h2
theorem e_n_add (a b : Int) : e_n a + e_n b = e_n (a + b) := (Int32.ofInt_add a b).symm
theorem e_n_sub (a b : Int) : e_n a - e_n b = e_n (a - b) := (Int32.ofInt_sub a b).symm
theorem e_n_mul (a b : Int) : e_n a * e_n b = e_n (a * b) := (Int32.ofInt_mul a b).symm
theorem e_n_zero : e_n 0 = 0 := rfl
theorem e_n_of (n : Nat) : Int32.ofNat n = e_n (n : Int) := Int32.ofInt_eq_ofNat.symm
theorem e_n_self (x : Int32) : e_n x.toInt = x := Int32.ofInt_toInt x
theorem e_n_lt {a b : Int} (h1 : -2147483648 ≤ a) (h2 : a < 2147483648) (h3 : -2147483648 ≤ b) (h4 : b < 2147483648) : (e_n a < e_n b) = (a < b) := by
  rw [Int32.lt_iff_toInt_lt, e_n_toInt h1 h2, e_n_toInt h3 h4]
theorem e_n_inj {a b : Int} (h1 : -2147483648 ≤ a) (h2 : a < 2147483648) (h3 : -2147483648 ≤ b) (h4 : b < 2147483648) : (e_n a = e_n b) = (a = b) := by
  apply propext
  constructor
  · intro h
    have := congrArg Int32.toInt h
    rwa [e_n_toInt h1 h2, e_n_toInt h3 h4] at this
  · intro h; rw [h]
theorem e_n_nat {a : Int} (h1 : -2147483648 ≤ a) (h2 : a < 2147483648) : (e_n a).toNatClampNeg = a.toNat := by
  rw [← Int32.toNat_toInt, e_n_toInt h1 h2]
theorem InR_n {a : Int} {n : Nat} (h1 : 0 ≤ a) (h2 : a < n) (h3 : n ≤ 2147483648) : InR (e_n a) n := by
  unfold InR
  rw [← e_n_zero, e_n_lt (by omega) (by omega) (by decide) (by decide), e_n_nat (by omega) (by omega)]
  omega
theorem rd_n {I : Nat → Nat → Int32} {r : Nat} {a : Int} (h1 : 0 ≤ a) (h2 : a < ln r) : rd I r (e_n a) = I r a.toNat := by
  have := ln_le r
  unfold rd
  rw [if_neg (InR_n h1 h2 (by omega)), e_n_nat (by omega) (by omega)]
theorem wr_n {I : Nat → Nat → Int32} {r : Nat} {a : Int} {v : Int32} (h1 : 0 ≤ a) (h2 : a < ln r) : wr I r (e_n a) v = e_u I r a.toNat v := by
  have := ln_le r
  unfold wr
  rw [if_neg (InR_n h1 h2 (by omega)), e_n_nat (by omega) (by omega)]
theorem wr_out {I : Nat → Nat → Int32} {r : Nat} {a : Int} {v : Int32} (h1 : a < 0 ∨ ln r ≤ a) (h3 : -2147483648 ≤ a) (h4 : a < 2147483648) : wr I r (e_n a) v = I := by
  unfold wr
  rw [if_pos]
  rw [← e_n_zero, e_n_lt (by omega) (by omega) (by decide) (by decide), e_n_nat (by omega) (by omega)]
  omega
-- tests
def tf (p : Prop) [Decidable p] : Int32 := if p then e_n 1 else e_n 0
theorem en_10 : (e_n 1 = (0 : Int32)) = False := by decide
theorem en_00 : (e_n 0 = (0 : Int32)) = True := by decide
theorem en_n0 : (e_n (-1) = (0 : Int32)) = False := by decide
theorem en01 : (e_n 1 = (1 : Int32)) = True := by decide
theorem tf_eq0 (p : Prop) [Decidable p] : (tf p = 0) = ¬ p := by unfold tf; by_cases h : p <;> simp [h, en_10, en_00]
theorem tf_ne0 (p : Prop) [Decidable p] : (tf p = 1) = p := by unfold tf; by_cases h : p <;> simp [h, en01]; decide
theorem tf01 (p : Prop) [Decidable p] : (tf p = 0 ∨ tf p = 1) = True := by rw [tf_eq0, tf_ne0]; by_cases h : p <;> simp [h]
theorem tf_T : tf True = e_n 1 := rfl
theorem tf_F : tf False = e_n 0 := rfl
theorem e_cc_eq (x y : Int32) : (e_cc .eq x y = true) = (x = y) := by simp [e_cc]
theorem e_cc_ne (x y : Int32) : (e_cc .ne x y = true) = ¬ (x = y) := by simp [e_cc]
theorem e_cc_lt (x y : Int32) : (e_cc .lt x y = true) = (x < y) := by simp [e_cc]
theorem e_cc_ge (x y : Int32) : (e_cc .ge x y = true) = ¬ (x < y) := by simp [e_cc]
theorem e_cc_gt (x y : Int32) : (e_cc .gt x y = true) = (y < x) := by simp [e_cc]
theorem e_cc_le (x y : Int32) : (e_cc .le x y = true) = ¬ (y < x) := by simp [e_cc]
-- what calls answer
theorem e_rI_i {v : Int32} {σ : e_S} {K : Int32 → e_S → e_X} {H : Nat → e_S → e_X} : e_rI (some (.inl (some (.int v)), σ)) K H = K v σ := rfl
theorem e_rJ_l {v : Int64} {σ : e_S} {K : Int64 → e_S → e_X} {H : Nat → e_S → e_X} : e_rJ (some (.inl (some (.long v)), σ)) K H = K v σ := rfl
theorem e_rF_r {v : Nat} {σ : e_S} {K : Nat → e_S → e_X} {H : Nat → e_S → e_X} : e_rF (some (.inl (some (.ref v)), σ)) K H = K v σ := rfl
theorem e_rV_n {σ : e_S} {K : e_S → e_X} {H : Nat → e_S → e_X} : e_rV (some (.inl none, σ)) K H = K σ := rfl
theorem e_rI_t {e : Nat} {σ : e_S} {K : Int32 → e_S → e_X} {H : Nat → e_S → e_X} : e_rI (some (.inr e, σ)) K H = H e σ := rfl
theorem e_rV_t {e : Nat} {σ : e_S} {K : e_S → e_X} {H : Nat → e_S → e_X} : e_rV (some (.inr e, σ)) K H = H e σ := rfl
theorem e_rI_ite {c : Prop} [Decidable c] {A B : e_X} {K : Int32 → e_S → e_X} {H : Nat → e_S → e_X} : e_rI (if c then A else B) K H = if c then e_rI A K H else e_rI B K H := by by_cases h : c <;> simp [h]
theorem e_rV_ite {c : Prop} [Decidable c] {A B : e_X} {K : e_S → e_X} {H : Nat → e_S → e_X} : e_rV (if c then A else B) K H = if c then e_rV A K H else e_rV B K H := by by_cases h : c <;> simp [h]
theorem e_sel_c {d m v q : Nat} {u x : Int32} {r : List (Int32 × Nat)} {ls st : List Value} {σ : e_S} : e_L d m (e_sel ((u, v) :: r) q x) ls st σ = if x = u then e_L d m v ls st σ else e_L d m (e_sel r q x) ls st σ := by
  show e_L d m (if x = u then v else e_sel r q x) ls st σ = _
  by_cases h : x = u <;> simp [h]
theorem e_sel_n {d m q : Nat} {x : Int32} {ls st : List Value} {σ : e_S} : e_L d m (e_sel [] q x) ls st σ = e_L d m q ls st σ := rfl
theorem e_E_11 {d y : Nat} {as : List Value} {σ : e_S} (h : e_own y = 11) : e_E (d + 1) y as σ = e_L d y 0 (e_ent as (e_mL y)) [] σ := by
  rw [e_E_L]
  unfold e_gd
  split
  · rename_i x s hx
    rw [h, hx]; rfl
  · rfl
theorem eH11 (m : Nat) (h : e_own m = 11) (h2 : (e_look e_hds m).getD [] = []) {K : e_K} {pc e : Nat} {ls : List Value} {σ : e_S} : e_H K m pc ls e σ = some (.inr e, σ) := by
  unfold e_H
  rw [h, h2]; rfl
-- rows
theorem rd_lt {i : Int32} {n : Nat} (hn : n ≤ 2700) (h : ¬ i < 0) : (i < Int32.ofNat n) = ¬ (n ≤ i.toNatClampNeg) := by
  have h0 : 0 ≤ i.toInt := by
    rw [Int32.lt_iff_toInt_lt] at h
    exact Int.not_lt.mp h
  rw [Int32.lt_iff_toInt_lt, Int32.toInt_ofNat_of_lt (by omega), ← Int32.toNat_toInt]
  apply propext
  omega
theorem c169 {d : Nat} {I : Nat → Nat → Int32} {z : e_Z} {r : Nat} {x1 : Int32} (hr : kd r = 20) : e_E (d + 1) 169 [.ref r, .int x1] (mk I z) = some (.inl (some (.int (rd I r x1))), mk I z) := by
  refine e_E_ret ?_
  show e_L d 169 0 [.ref r, .int x1] [] (mk I z) = _
  have hl := ln_le r
  simp only [B169_0, e_al_mk hr, e_ia_mk hr, B169_16, B169_17, e_cc_lt, e_cc_ge]
  unfold rd ck
  by_cases h : x1 < 0
  · simp [h, e_n_zero]
  · by_cases h2 : ln r ≤ x1.toNatClampNeg
    · simp [h, h2, rd_lt hl h, e_n_zero]
    · simp [h, h2, rd_lt hl h]
theorem c170 {d : Nat} {I : Nat → Nat → Int32} {z : e_Z} {r : Nat} {x1 x2 : Int32} (hr : kd r = 20) : e_E (d + 1) 170 [.ref r, .int x1, .int x2] (mk I z) = some (.inl none, mk (wr I r x1 x2) z) := by
  refine e_E_ret ?_
  show e_L d 170 0 [.ref r, .int x1, .int x2] [] (mk I z) = _
  have hl := ln_le r
  simp only [B170_0, e_al_mk hr, e_is_mk hr, B170_14, e_cc_lt, e_cc_ge]
  unfold wr ck
  by_cases h : x1 < 0
  · simp [h]
  · by_cases h2 : ln r ≤ x1.toNatClampNeg
    · simp [h, h2, rd_lt hl h]
    · simp [h, h2, rd_lt hl h]
theorem e_ofNat_n (n : Nat) : Int32.ofNat n = e_n n := e_n_of n
theorem e_cp_mk {I : Nat → Nat → Int32} {z : e_Z} {a b n : Nat} (ha : kd a = 20) (hb : kd b = 20) (h1 : n ≤ ln a) (h2 : n ≤ ln b) (K : e_S → e_X) : e_cp (mk I z) a (e_n 0) b (e_n 0) (e_n n) K = K (mk (upR I b (fun j => if j < n then I a j else I b j)) z) := by
  unfold e_cp
  have hl := ln_le a
  have hz : ¬ (e_n 0 < 0) := by decide
  have hn : ¬ (e_n (n : Int) < 0) := by
    rw [← e_n_zero, e_n_lt (by omega) (by omega) (by decide) (by decide)]; omega
  have hm : (e_n (n : Int)).toNatClampNeg = n := by rw [e_n_nat (by omega) (by omega)]; omega
  have hm0 : (e_n 0).toNatClampNeg = 0 := by decide
  rw [e_k_kd ha (by decide), e_k_kd hb (by decide), hm, hm0, if_pos ⟨rfl, rfl, hz, hz, hn, by rw [e_l_mk]; omega, by rw [e_l_mk]; omega⟩]
  show K (e_uR _ _ _) = _
  congr 1
  unfold e_uR mk ms upR
  congr 4
  funext q
  by_cases hq : q = b
  · simp only [hq, if_true]
    funext j
    by_cases hj : j < n
    · rw [pk_cpy_in (Nat.zero_le _) (by omega)]; simp [hj, e_I]
    · rw [pk_cpy_out (by omega)]; simp [hj, e_I]
  · simp [hq]
theorem c171 {d : Nat} {I : Nat → Nat → Int32} {z : e_Z} {r r2 : Nat} (hr : kd r = 20) (hr2 : kd r2 = 20) : e_E (d + 1) 171 [.ref r, .ref r2] (mk I z) = some (.inl none, mk (upR I r2 (fun j => if j < min (ln r) (ln r2) then I r j else I r2 j)) z) := by
  refine e_E_ret ?_
  show e_L d 171 0 [.ref r, .ref r2] [] (mk I z) = _
  have hl := ln_le r
  have hl2 := ln_le r2
  have hm : e_min (Int32.ofNat (ln r)) (Int32.ofNat (ln r2)) = e_n ((min (ln r) (ln r2) : Nat) : Int) := by
    unfold e_min
    simp only [e_n_of]
    have hq := e_n_lt (a := ln r2) (b := ln r) (by omega) (by omega) (by omega) (by omega)
    by_cases h : (ln r2 : Int) < ln r
    · rw [if_pos (hq ▸ h), Nat.min_eq_right (by omega)]
    · rw [if_neg (hq ▸ h), Nat.min_eq_left (by omega)]
  simp only [B171_0, e_al_mk hr, e_al_mk hr2, hm, e_cp_mk hr hr2 (Nat.min_le_left _ _) (Nat.min_le_right _ _), B171_14]
theorem c172 {d : Nat} {I : Nat → Nat → Int32} {z : e_Z} {r : Nat} {x1 : Int32} (hr : kd r = 20) : e_E (d + 1) 172 [.ref r, .int x1] (mk I z) = some (.inl none, mk (upR I r (fun j => if j < ln r then x1 else I r j)) z) := by
  refine e_E_ret ?_
  show e_L d 172 0 [.ref r, .int x1, .null] [] (mk I z) = _
  have hl := ln_le r
  have key : ∀ n i, i + n = ln r → e_L d 172 2 [.ref r, .int x1, .int (e_n (i : Nat))] [] (mk (upR I r (fun j => if j < i then x1 else I r j)) z) = some (.inl none, mk (upR I r (fun j => if j < ln r then x1 else I r j)) z) := by
    intro n
    induction n with
    | zero =>
      intro i hi
      rw [B172_2, e_al_mk hr, if_pos (by rw [e_n_of, e_cc_ge, e_n_lt (by omega) (by omega) (by omega) (by omega)]; omega), show i = ln r by omega]
    | succ n ih =>
      intro i hi
      rw [B172_2, e_al_mk hr, if_neg (by rw [e_n_of, e_cc_ge, e_n_lt (by omega) (by omega) (by omega) (by omega)]; omega), e_is_mk hr, ck_ok (InR_n (by omega) (by omega) (by omega)), B172_12, e_n_add, e_n_nat (by omega) (by omega), e_u_up, upR_up, upR_same]
      rw [← ih (i + 1) (by omega)]
      congr 3
      funext j
      by_cases h : j = i
      · simp [h]
      · have : (j < i + 1) = (j < i) := by apply propext; omega
        simp [h, this]
  have := key (ln r) 0 (by omega)
  rw [B172_0]
  rw [upR_id (by intro j; simp)] at this
  exact this
end BA
