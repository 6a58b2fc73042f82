/-! the words' texts -/
section S99zi
def tl (k : Nat) : Nat := (e_txt.getD k []).length
def tc (k i : Nat) : Int32 := (e_txt.getD k []).getD i 0
theorem txl_all : ∀ k, k < 17 → tl k ≤ 6 ∧ Int32.ofNat (tl k) = e_n (tl k : Nat) ∧ e_shr (e_n (tl k : Nat)) 0 = e_n (tl k : Nat) := by
  have : ∀ k : Fin 17, tl k.val ≤ 6 ∧ Int32.ofNat (tl k.val) = e_n (tl k.val : Nat) ∧ e_shr (e_n (tl k.val : Nat)) 0 = e_n (tl k.val : Nat) := by decide +kernel
  exact fun k hk => this ⟨k, hk⟩
theorem txc_all : ∀ k i, k < 17 → i < tl k → vp_nar .char (e_i2c (tc k i &&& e_n 255)) = e_i2c (tc k i &&& e_n 255) ∧ e_i2c (tc k i &&& e_n 255) = tc k i ∧ vp_nar .char (tc k i) = tc k i ∧ isL (tc k i) = true := by
  have : ∀ k : Fin 17, ∀ i : Fin 6, i.val < tl k.val → vp_nar .char (e_i2c (tc k.val i.val &&& e_n 255)) = e_i2c (tc k.val i.val &&& e_n 255) ∧ e_i2c (tc k.val i.val &&& e_n 255) = tc k.val i.val ∧ vp_nar .char (tc k.val i.val) = tc k.val i.val ∧ isL (tc k.val i.val) = true := by decide +kernel
  exact fun k i hk hi => this ⟨k, hk⟩ ⟨i, by have := (txl_all k hk).1; omega⟩ hi
theorem ek_c {I : Nat → Nat → Int32} {z : e_Z} {a : Nat} (h : 538 < a) : e_k (mk I z) a = 0 := by
  unfold e_k
  exact if_neg (fun q => by have h2 : a ≤ 538 := q.2; omega)
theorem al_t {I : Nat → Nat → Int32} {z : e_Z} {k : Nat} (hk : k < 17) (K : Int32 → e_X) : e_al (mk I z) (1000300 + k) K = K (e_n (tl k : Nat)) := by
  unfold e_al
  rw [ek_c (by omega), if_neg (by decide)]
  unfold e_sl
  rw [if_neg (by show ¬ 1000300 + k = 1000000; omega), if_neg (by omega), if_neg (by omega), if_pos (by omega), show 1000300 + k - 1000300 = k by omega]
  show K (Int32.ofNat (tl k)) = _
  rw [(txl_all k hk).2.1]
theorem za_t {I : Nat → Nat → Int32} {z : e_Z} {k i : Nat} (hk : k < 17) (hi : i < tl k) (K : Int32 → e_X) : e_za (mk I z) (1000300 + k) (e_n (i : Nat)) K = K (tc k i) := by
  have h6 := (txl_all k hk).1
  have hl : (e_txt.getD k []).length = tl k := rfl
  unfold e_za
  rw [ek_c (by omega), if_neg (by decide), if_pos (by omega), show 1000300 + k - 1000300 = k by omega, e_n_nat' (by omega), if_neg (by
    rw [hl]
    rintro (h | h)
    · rw [show (0 : Int32) = e_n ((0 : Nat) : Nat) from rfl, e_n_ltN (by omega) (by omega)] at h; omega
    · omega)]
  rfl
theorem gs_t {k : Nat} (hk : k < 17) (K : Nat → e_X) : e_gsF 41 0 (1000200 + k) K = K (1000300 + k) := by
  unfold e_gsF
  rw [if_neg (fun h => absurd h.1 (by decide)), if_pos ⟨rfl, rfl, by omega, by omega⟩, show 1000200 + k + 100 = 1000300 + k by omega]
theorem gi_t {k : Nat} (hk : k < 17) (K : Int32 → e_X) : e_gsI 41 1 (1000200 + k) K = K 0 := by
  unfold e_gsI
  rw [if_neg (fun h => absurd h.1 (by decide)), if_pos ⟨rfl, rfl, by omega, by omega⟩]
theorem ck_t {I : Nat → Nat → Int32} {z : e_Z} {k : Nat} (hk : k < 17) (x : e_X) : e_ck (mk I z) 41 (1000200 + k) x = x := by
  unfold e_ck e_okr
  exact if_pos (decide_eq_true (by omega))
theorem c330h {d k : Nat} {I : Nat → Nat → Int32} {z : e_Z} (hk : k < 17) : e_E (d + 2) 330 [.ref (1000200 + k)] (mk I z) = some (.inl (some (.int (e_n (tl k : Nat)))), mk I z) := by
  have h332 : e_E (d + 1) 332 [.ref (1000200 + k)] (mk I z) = some (.inl (some (.int 0)), mk I z) := by
    refine e_E_ret (d := d) ?_
    show e_L d 332 0 [.ref (1000200 + k)] [] (mk I z) = _
    rw [B332_0, if_neg (by decide), gi_t hk, B332_14, if_pos (by decide)]
  refine e_E_ret (d := d + 1) ?_
  show e_L (d + 1) 330 0 [.ref (1000200 + k)] [] (mk I z) = _
  rw [B330_0, gs_t hk, al_t hk, ck_t hk, h332, e_rI_i, B330_9, (txl_all k hk).2.2]
theorem c331h {d k i : Nat} {I : Nat → Nat → Int32} {z : e_Z} (hk : k < 17) (hi : i < tl k) : e_E (d + 4) 331 [.ref (1000200 + k), .int (e_n (i : Nat))] (mk I z) = some (.inl (some (.int (tc k i))), mk I z) := by
  have h6 := (txl_all k hk).1
  obtain ⟨t1, t2, t3, -⟩ := txc_all k i hk hi
  have h333 : e_E (d + 3) 333 [.ref (1000200 + k)] (mk I z) = some (.inl (some (.int (e_n 1))), mk I z) := by
    refine e_E_ret (d := d + 2) ?_
    show e_L (d + 2) 333 0 [.ref (1000200 + k)] [] (mk I z) = _
    rw [B333_0, B333_3, if_neg (by decide), B333_6, gi_t hk, B333_10, if_neg (by decide), B333_13, B333_18, if_pos (by decide)]
  have h336 : e_E (d + 1) 336 [.int (e_n (i : Nat)), .int (e_n (tl k : Nat)), .null] (mk I z) = some (.inl (some (.int (e_n (i : Nat)))), mk I z) := by
    refine e_E_ret (d := d) ?_
    show e_L d 336 0 [.int (e_n (i : Nat)), .int (e_n (tl k : Nat)), .null] [] (mk I z) = _
    rw [C336_0, if_neg (by rw [show (0 : Int32) = e_n ((0 : Nat) : Nat) from rfl, e_n_ltN (by omega) (by omega)]; omega), if_pos (by rw [e_n_ltN (by omega) (by omega)]; exact hi)]
  have h334 : e_E (d + 2) 334 [.int (e_n (i : Nat)), .int (e_n (tl k : Nat))] (mk I z) = some (.inl none, mk I z) := by
    refine e_E_ret (d := d + 1) ?_
    show e_L (d + 1) 334 0 [.int (e_n (i : Nat)), .int (e_n (tl k : Nat))] [] (mk I z) = _
    rw [B334_0, h336, e_rI_i, B334_8]
  have h335 : e_E (d + 3) 335 [.ref (1000300 + k), .int (e_n (i : Nat))] (mk I z) = some (.inl (some (.int (tc k i))), mk I z) := by
    refine e_E_ret (d := d + 2) ?_
    show e_L (d + 2) 335 0 [.ref (1000300 + k), .int (e_n (i : Nat))] [] (mk I z) = _
    rw [B335_0, al_t hk, h334, e_rV_n, B335_6, B335_8, za_t hk hi, B335_9, if_pos t1, t2]
  refine e_E_ret (d := d + 3) ?_
  show e_L (d + 3) 331 0 [.ref (1000200 + k), .int (e_n (i : Nat))] [] (mk I z) = _
  rw [B331_0, ck_t hk, h333, e_rI_i, B331_4, if_neg (by decide), gs_t hk, h335, e_rI_i, B331_15, if_pos t3]
end S99zi
