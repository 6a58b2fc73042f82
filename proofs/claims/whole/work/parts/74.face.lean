/-! a call of the class and the same call of the reference -/
section S74
def zs (z z1 : e_Z) : Prop := z1.1 = z.1 ∧ z1.2.2 = z.2.2
theorem zs_rf (z : e_Z) : zs z z := ⟨rfl, rfl⟩
theorem zs_F (z : e_Z) : zs z (zF z z.2.1.1) := ⟨rfl, rfl⟩
def OutC (r : Int32 ⊕ Nat) (I : Nat → Nat → Int32) (z : e_Z) : e_X := match r with
  | .inl v => some (.inl (some (.int v)), mk I z)
  | .inr e => some (.inr e, mk I (zx z))
/-- what the reference answers and whether it says 'thrown' -/
def RefO (c1 : Int32) (r : Int32 ⊕ Nat) (b t : Int32) : Prop := match r with
  | .inl v => t = e_n 0 ∧ b = v
  | .inr e => t = if e = 0 then e_n 1 else c1
def Face (d : Nat) (c1 : Int32) (I : Nat → Nat → Int32) (z : e_Z) (y y' : Nat) (as : List Value) : Prop :=
  ∃ r I1 z1, zs z z1 ∧ e_E (d + 10) y (.ref 1 :: as) (mk I z) = OutC r I1 z1 ∧ ∀ z2 : e_Z, z2.2.1 = z1.2.1 → ∃ I2 B' b, e_E (d + 10) y' (.ref 489 :: as) (mk I1 z2) = some (.inl (some (.int b)), mk I2 z2) ∧ Rel I2 z2 B' ∧ RefO c1 r b (I2 489 0)
/-- only scratch of the reference is written -/
def RfE (J I2 : Nat → Nat → Int32) : Prop := (∀ r, r ≠ 489 → ¬ ScrR r → I2 r = J r) ∧ ∀ j, ¬ ScrF j → I2 489 j = J 489 j
theorem RfE_rf (J : Nat → Nat → Int32) : RfE J J := ⟨fun _ _ _ => rfl, fun _ _ => rfl⟩
theorem RfE_tr {a b c : Nat → Nat → Int32} (h : RfE a b) (g : RfE b c) : RfE a c := ⟨fun r h1 h2 => (g.1 r h1 h2).trans (h.1 r h1 h2), fun j h1 => (g.2 j h1).trans (h.2 j h1)⟩
theorem RfE_u {J : Nat → Nat → Int32} {j : Nat} {v : Int32} (h : ScrF j) : RfE J (e_u J 489 j v) := ⟨fun r h1 _ => e_u_na h1, fun k hk => e_u_ne (fun q => hk (by rw [q]; exact h))⟩
theorem RfE_w {J : Nat → Nat → Int32} {r k : Nat} {v : Int32} (h : ScrR r) (h2 : r ≠ 489) : RfE J (e_u J r k v) := ⟨fun q _ h1 => e_u_na (fun e => h1 (by rw [e]; exact h)), fun k _ => by rw [e_u_na (Ne.symm h2)]⟩
theorem RfE_0 {J : Nat → Nat → Int32} {v : Int32} : RfE J (e_u J 489 0 v) := RfE_u (Or.inl rfl)
def CfE (z : e_Z) (I I1 : Nat → Nat → Int32) : Prop := ∀ r, ¬ ScrC z r → I1 r = I r
theorem face_rd {d y y' : Nat} {c1 : Int32} {as : List Value} {I I1 : Nat → Nat → Int32} {z z1 : e_Z} {B : e_B} {r : Int32 ⊕ Nat} (H : Rel I z B) (hz : zs z z1) (hb : z1.2.1.1 = z.2.1.1) (hc : e_E (d + 10) y (.ref 1 :: as) (mk I z) = OutC r I1 z1) (hf : CfE z I I1)
    (hr : ∀ (J : Nat → Nat → Int32) (z2 : e_Z), Rel J z2 B → (∀ s, 489 ≤ s → J s = I s) → ∃ I2 b, e_E (d + 10) y' (.ref 489 :: as) (mk J z2) = some (.inl (some (.int b)), mk I2 z2) ∧ RfE J I2 ∧ RefO c1 r b (I2 489 0)) : Face d c1 I z y y' as := by
  refine ⟨r, I1, z1, hz, hc, fun z2 h2 => ?_⟩
  have HJ : Rel I1 z2 B := Rel_c (by rw [h2]; exact hb) hf H
  obtain ⟨I2, b, e1, e2, e3⟩ := hr I1 z2 HJ (fun s hs => hf s (by unfold ScrC; have := bd_cases z; omega))
  exact ⟨I2, B, b, e1, Rel_r rfl e2.1 e2.2 HJ, e3⟩
theorem rel_wb {I : Nat → Nat → Int32} {z : e_Z} {B : e_B} (H : Rel I z B) : WB B := H.1
theorem rel_bc {I : Nat → Nat → Int32} {z : e_Z} {B : e_B} (H : Rel I z B) : BrC I (bd z.2.1.1) B := H.2.1
theorem rel_rb {I : Nat → Nat → Int32} {z : e_Z} {B : e_B} (H : Rel I z B) : RB I B := H.2.2.1
theorem rel_st {I : Nat → Nat → Int32} {z : e_Z} {B : e_B} (H : Rel I z B) : StR I B 50 515 516 532 (I 489 56) (I 489 76) := H.2.2.2.2.2.2.2.2.1
theorem rel_mc {I : Nat → Nat → Int32} {z : e_Z} {B : e_B} (H : Rel I z B) : MoC I 51 B (I 515) := (rel_st H).1
theorem rel_wm {I : Nat → Nat → Int32} {z : e_Z} {B : e_B} (H : Rel I z B) : WM B (I 515) := (rel_st H).2.1
theorem rel_day {I : Nat → Nat → Int32} {z : e_Z} {B : e_B} (H : Rel I z B) : ∃ t : Nat, t ≤ 60 ∧ I 515 0 = e_n (t : Nat) := by
  obtain ⟨⟨t, h1, h2, -⟩, -⟩ := rel_wm H
  exact ⟨t, h1, h2⟩
theorem in_n {x : Int32} {n : Nat} (hn : n < 2147483648) (h : ¬ (x < 0 ∨ ¬ x < e_n (n : Nat))) : ∃ p : Nat, p < n ∧ x = e_n (p : Nat) := by
  obtain ⟨a, h1, h2, rfl⟩ := e_n_toI x
  have h3 : ¬ e_n a < 0 := fun q => h (Or.inl q)
  have h4 : e_n a < e_n (n : Nat) := Decidable.byContradiction (fun q => h (Or.inr q))
  rw [← e_n_zero, e_n_lt (by omega) (by omega) (by omega) (by omega)] at h3
  rw [e_n_lt (by omega) (by omega) (by omega) (by omega)] at h4
  exact ⟨a.toNat, by omega, by congr 1; omega⟩
theorem ne_n {x : Int32} {n : Nat} (hn : n < 2147483648) (h : x < 0 ∨ ¬ x < e_n (n : Nat)) (k : Nat) (hk : k < n) : ¬ x = e_n (k : Nat) := by
  intro hx
  subst hx
  rcases h with h | h
  · rw [show (0 : Int32) = e_n ((0 : Nat) : Nat) from rfl, e_n_ltN (by omega) (by omega)] at h; omega
  · rw [e_n_ltN (by omega) (by omega)] at h; exact h hk
-- the reference's tests of what calls must name
theorem right_y {d : Nat} {J : Nat → Nat → Int32} {z : e_Z} {p : Prop} [Decidable p] {x2 : Int32} (h0 : J 489 0 = e_n 0) (h : p) : e_E (d + 1) 177 [.ref 489, .int (tf p), .int x2] (mk J z) = some (.inl (some (.int (e_n 1))), mk J z) := by
  have h1 : ¬ tf p = 0 := by rw [tf_eq0]; exact fun q => q h
  have e : (if J 489 0 = 0 then if tf p = 0 then e_u J 489 0 x2 else J else J) = J := by rw [if_neg h1]; split <;> rfl
  have e2 : tf (J 489 0 = 0) = e_n 1 := by unfold tf; exact if_pos h0
  rw [c177, e, e2]
theorem right_n {d : Nat} {J : Nat → Nat → Int32} {z : e_Z} {p : Prop} [Decidable p] {x2 : Int32} (h0 : J 489 0 = e_n 0) (h : ¬ p) (hx : ¬ x2 = 0) : e_E (d + 1) 177 [.ref 489, .int (tf p), .int x2] (mk J z) = some (.inl (some (.int (e_n 0))), mk (e_u J 489 0 x2) z) := by
  have h1 : tf p = 0 := by rw [tf_eq0]; exact h
  have e : (if J 489 0 = 0 then if tf p = 0 then e_u J 489 0 x2 else J else J) = e_u J 489 0 x2 := by rw [if_pos h1]; exact if_pos h0
  have e2 : tf (e_u J 489 0 x2 489 0 = 0) = e_n 0 := by unfold tf; rw [e_u_same]; exact if_neg hx
  rw [c177, e, e2]
theorem c243y {d : Nat} {J : Nat → Nat → Int32} {z : e_Z} {B : e_B} {x : Int32} (hB : RB J B) (h0 : J 489 0 = e_n 0) (h : ¬ (x < 0 ∨ ¬ x < e_n (bMa B : Nat))) : e_E (d + 2) 243 [.ref 489, .int x] (mk J z) = some (.inl (some (.int (e_n 1))), mk J z) := by
  refine e_E_ret (d := d + 1) ?_
  show e_L (d + 1) 243 0 [.ref 489, .int x] [] (mk J z) = _
  rw [C243_0, hB.1, right_y h0 ⟨fun q => h (Or.inl q), Decidable.byContradiction (fun q => h (Or.inr q))⟩, e_rI_i, C243_22 (y0 := e_n 1) (Or.inr rfl)]
theorem c243n {d : Nat} {J : Nat → Nat → Int32} {z : e_Z} {B : e_B} {x : Int32} (hB : RB J B) (h0 : J 489 0 = e_n 0) (h : x < 0 ∨ ¬ x < e_n (bMa B : Nat)) : e_E (d + 2) 243 [.ref 489, .int x] (mk J z) = some (.inl (some (.int (e_n 0))), mk (e_u J 489 0 (e_n 1)) z) := by
  refine e_E_ret (d := d + 1) ?_
  show e_L (d + 1) 243 0 [.ref 489, .int x] [] (mk J z) = _
  rw [C243_0, hB.1, right_n h0 (fun q => h.elim q.1 (fun w => w q.2)) (by decide), e_rI_i, C243_22 (y0 := e_n 0) (Or.inl rfl)]
theorem c244y {d : Nat} {J : Nat → Nat → Int32} {z : e_Z} {B : e_B} {x : Int32} (hB : RB J B) (h0 : J 489 0 = e_n 0) (h : ¬ (x < 0 ∨ ¬ x < e_n (bPl B : Nat))) : e_E (d + 2) 244 [.ref 489, .int x] (mk J z) = some (.inl (some (.int (e_n 1))), mk J z) := by
  refine e_E_ret (d := d + 1) ?_
  show e_L (d + 1) 244 0 [.ref 489, .int x] [] (mk J z) = _
  rw [C244_0, hB.2.1, right_y h0 ⟨fun q => h (Or.inl q), Decidable.byContradiction (fun q => h (Or.inr q))⟩, e_rI_i, C244_22 (y0 := e_n 1) (Or.inr rfl)]
theorem c244n {d : Nat} {J : Nat → Nat → Int32} {z : e_Z} {B : e_B} {x : Int32} (hB : RB J B) (h0 : J 489 0 = e_n 0) (h : x < 0 ∨ ¬ x < e_n (bPl B : Nat)) : e_E (d + 2) 244 [.ref 489, .int x] (mk J z) = some (.inl (some (.int (e_n 0))), mk (e_u J 489 0 (e_n 1)) z) := by
  refine e_E_ret (d := d + 1) ?_
  show e_L (d + 1) 244 0 [.ref 489, .int x] [] (mk J z) = _
  rw [C244_0, hB.2.1, right_n h0 (fun q => h.elim q.1 (fun w => w q.2)) (by decide), e_rI_i, C244_22 (y0 := e_n 0) (Or.inl rfl)]
theorem c245y {d : Nat} {J : Nat → Nat → Int32} {z : e_Z} {B : e_B} {x : Int32} (hB : RB J B) (h0 : J 489 0 = e_n 0) (h : ¬ (x < 0 ∨ ¬ x < e_n (bPe B : Nat))) : e_E (d + 2) 245 [.ref 489, .int x] (mk J z) = some (.inl (some (.int (e_n 1))), mk J z) := by
  refine e_E_ret (d := d + 1) ?_
  show e_L (d + 1) 245 0 [.ref 489, .int x] [] (mk J z) = _
  rw [C245_0, hB.2.2.2.1, right_y h0 ⟨fun q => h (Or.inl q), Decidable.byContradiction (fun q => h (Or.inr q))⟩, e_rI_i, C245_22 (y0 := e_n 1) (Or.inr rfl)]
theorem c245n {d : Nat} {J : Nat → Nat → Int32} {z : e_Z} {B : e_B} {x : Int32} (hB : RB J B) (h0 : J 489 0 = e_n 0) (h : x < 0 ∨ ¬ x < e_n (bPe B : Nat)) : e_E (d + 2) 245 [.ref 489, .int x] (mk J z) = some (.inl (some (.int (e_n 0))), mk (e_u J 489 0 (e_n 1)) z) := by
  refine e_E_ret (d := d + 1) ?_
  show e_L (d + 1) 245 0 [.ref 489, .int x] [] (mk J z) = _
  rw [C245_0, hB.2.2.2.1, right_n h0 (fun q => h.elim q.1 (fun w => w q.2)) (by decide), e_rI_i, C245_22 (y0 := e_n 0) (Or.inl rfl)]
theorem most_n {x : Int32} {k : Nat} (hk : k < 1000) : (x < e_n ((k + 1 : Nat) : Nat)) = ¬ (e_n (k : Nat) < x) := by
  obtain ⟨a, h1, h2, rfl⟩ := e_n_toI x
  rw [e_n_lt (by omega) (by omega) (by omega) (by omega), e_n_lt (by omega) (by omega) (by omega) (by omega)]
  apply propext; omega
theorem c246y {d k : Nat} {J : Nat → Nat → Int32} {z : e_Z} {x x2 : Int32} (hx : x2 = e_n (k : Nat)) (hk : k < 1000) (h0 : J 489 0 = e_n 0) (h : ¬ (x < 0 ∨ ¬ x < e_n ((k + 1 : Nat) : Nat))) : e_E (d + 2) 246 [.ref 489, .int x, .int x2] (mk J z) = some (.inl (some (.int (e_n 1))), mk J z) := by
  refine e_E_ret (d := d + 1) ?_
  show e_L (d + 1) 246 0 [.ref 489, .int x, .int x2] [] (mk J z) = _
  rw [most_n hk] at h
  rw [C246_0, hx, right_y h0 ⟨fun q => h (Or.inl q), fun q => h (Or.inr (fun w => w q))⟩, e_rI_i, C246_11 (y0 := e_n 1) (Or.inr rfl)]
theorem c246n {d k : Nat} {J : Nat → Nat → Int32} {z : e_Z} {x x2 : Int32} (hx : x2 = e_n (k : Nat)) (hk : k < 1000) (h0 : J 489 0 = e_n 0) (h : x < 0 ∨ ¬ x < e_n ((k + 1 : Nat) : Nat)) : e_E (d + 2) 246 [.ref 489, .int x, .int x2] (mk J z) = some (.inl (some (.int (e_n 0))), mk (e_u J 489 0 (e_n 1)) z) := by
  refine e_E_ret (d := d + 1) ?_
  show e_L (d + 1) 246 0 [.ref 489, .int x, .int x2] [] (mk J z) = _
  rw [most_n hk] at h
  rw [C246_0, hx, right_n h0 (fun q => h.elim q.1 (fun w => w q.2)) (by decide), e_rI_i, C246_11 (y0 := e_n 0) (Or.inl rfl)]
/-- the reference begins a call -/
theorem RB_0 {J : Nat → Nat → Int32} {B : e_B} {v : Int32} (h : RB J B) : RB (e_u J 489 0 v) B := RB_fr (fun k k1 _ => e_u_ne (by omega)) (fun r h1 _ => e_u_na (by omega)) h
theorem K0 {J : Nat → Nat → Int32} : e_u J 489 0 (e_n 0) 489 0 = e_n 0 := e_u_same
theorem K515 {J : Nat → Nat → Int32} {v : Int32} {k r : Nat} (h : r ≠ 489) : e_u J 489 k v r = J r := e_u_na h
end S74
