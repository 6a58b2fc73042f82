/-! the law's cases -/
section S99w
theorem lg_same (x : Int64) : lg_cmp x x = 0 := by
  unfold lg_cmp
  simp
def Nx (D P0 : Nat) (I : Nat → Nat → Int32) (z : e_Z) (x4 : Int32) (u5 u6 : Value) : Prop :=
  ∃ I' z' B' u5' u6', e_L (D + 15) 325 P0 [.ref 1000000, .ref 1, .ref 489, .ref 538, .int x4, u5, u6] [] (mk I z) = e_L (D + 15) 325 2323 [.ref 1000000, .ref 1, .ref 489, .ref 538, .int x4, u5', u6'] [] (mk I' z') ∧ Rel I' z' B' ∧ z'.2.2.2 = z.2.2.2 ∧ z'.2.2.1.1 ≤ z.2.2.1.1 + 1 ∧ z'.2.2.1.2 ≤ z.2.2.1.2 + 6
theorem cmp_ok {D y y' w P0 P1 P2 : Nat} {c1 : Int32} {ok : Nat → Prop} {f : Int32 → Int64} {I : Nat → Nat → Int32} {z : e_Z} {as : List Value} {x4 : Int32} {u5 u6 : Value} {H0 : Nat → e_S → e_X}
    (hF : FaceX ok (D + 4) c1 I z y y' as) (hc : ¬ c1 = 0)
    (hw : ∀ r I1 z1, e_E (D + 14) y (.ref 1 :: as) (mk I z) = OutC r I1 z1 → (∀ e, r = .inr e → ok e) → e_E (D + 15) w (.ref 1 :: (as ++ [.ref 538])) (mk I z) = some (.inl (some (.int (wk c1 r))), mk I1 (zo f r z1)))
    (h0 : e_L (D + 15) 325 P0 [.ref 1000000, .ref 1, .ref 489, .ref 538, .int x4, u5, u6] [] (mk I z) = e_rI (e_E (D + 15) w (.ref 1 :: (as ++ [.ref 538])) (mk I z)) (fun v σ => e_L (D + 15) 325 P1 [.ref 1000000, .ref 1, .ref 489, .ref 538, .int x4, u5, u6] [.int v] σ) H0)
    (h1 : ∀ v I1 (z1 : e_Z), z1.2.2.2 = z.2.2.2 → ∃ H1 : Nat → e_S → e_X, e_L (D + 15) 325 P1 [.ref 1000000, .ref 1, .ref 489, .ref 538, .int x4, u5, u6] [.int v] (mk I1 z1) = e_rI (e_E (D + 15) y' (.ref 489 :: as) (mk I1 z1)) (fun b σ => e_L (D + 15) 325 P2 [.ref 1000000, .ref 1, .ref 489, .ref 538, .int x4, .int v, u6] [.int b] σ) H1)
    (h2 : ∀ v b I2 (z2 : e_Z), I2 489 0 = v → (v = 0 → z2.1 538 (e_n 0).toNatClampNeg = f b) → e_L (D + 15) 325 P2 [.ref 1000000, .ref 1, .ref 489, .ref 538, .int x4, .int v, u6] [.int b] (mk I2 z2) = e_L (D + 15) 325 2323 [.ref 1000000, .ref 1, .ref 489, .ref 538, .int x4, .int v, .int b] [] (mk I2 z2)) : Nx D P0 I z x4 u5 u6 := by
  obtain ⟨r, I1, z1, hz, hE, hok, hr⟩ := hF
  obtain ⟨p1, p2, p3, p4⟩ := zo_p (f := f) (r := r) (z := z1)
  obtain ⟨I2, B', b, e1, hR, hO⟩ := hr (zo f r z1) p1
  have e2 : e_E (D + 15) y' (.ref 489 :: as) (mk I1 (zo f r z1)) = some (.inl (some (.int b)), mk I2 (zo f r z1)) := e_E_up (d := D + 14) e1
  have hs : z1.2.2 = z.2.2 := hz.2
  refine ⟨I2, zo f r z1, B', .int (wk c1 r), .int b, ?_, hR, by rw [p2, hs], by rw [← hs]; exact p3, by rw [← hs]; exact p4⟩
  obtain ⟨H1, h1'⟩ := h1 (wk c1 r) I1 (zo f r z1) (by rw [p2, hs])
  rw [h0, hw r I1 z1 hE hok, e_rI_i, h1', e2, e_rI_i]
  refine h2 _ _ _ _ ?_ ?_
  · cases r with
    | inl v => exact hO.1
    | inr e => exact hO
  · intro hw0
    cases r with
    | inl v =>
      have hb : b = v := hO.2
      rw [hb]
      show e_u z1.1 538 (e_n 0).toNatClampNeg (f v) 538 (e_n 0).toNatClampNeg = f v
      unfold e_u
      simp
    | inr e =>
      exfalso
      have : (if e = 0 then e_n 1 else c1) = 0 := hw0
      by_cases he : e = 0
      · rw [if_pos he] at this; exact absurd this (by decide)
      · rw [if_neg he] at this; exact hc this
/-- a face whose reference may leave longs of its own behind -/
def FaceY (ok : Nat → Prop) (d : Nat) (c1 : Int32) (I : Nat → Nat → Int32) (z : e_Z) (y y' : Nat) (as : List Value) : Prop :=
  ∃ r I1 z1, zs z z1 ∧ e_E (d + 10) y (.ref 1 :: as) (mk I z) = OutC r I1 z1 ∧ (∀ e, r = .inr e → ok e) ∧ ∀ z2 : e_Z, z2.2.1 = z1.2.1 → ∃ I2 z3 B' b, e_E (d + 10) y' (.ref 489 :: as) (mk I1 z2) = some (.inl (some (.int b)), mk I2 z3) ∧ z3.2 = z2.2 ∧ z3.1 538 = z2.1 538 ∧ Rel I2 z3 B' ∧ RefO c1 r b (I2 489 0)
theorem cmp_okY {D y y' w P0 P1 P2 : Nat} {c1 : Int32} {ok : Nat → Prop} {f : Int32 → Int64} {I : Nat → Nat → Int32} {z : e_Z} {as : List Value} {x4 : Int32} {u5 u6 : Value} {H0 : Nat → e_S → e_X}
    (hF : FaceY ok (D + 4) c1 I z y y' as) (hc : ¬ c1 = 0)
    (hw : ∀ r I1 z1, e_E (D + 14) y (.ref 1 :: as) (mk I z) = OutC r I1 z1 → (∀ e, r = .inr e → ok e) → e_E (D + 15) w (.ref 1 :: (as ++ [.ref 538])) (mk I z) = some (.inl (some (.int (wk c1 r))), mk I1 (zo f r z1)))
    (h0 : e_L (D + 15) 325 P0 [.ref 1000000, .ref 1, .ref 489, .ref 538, .int x4, u5, u6] [] (mk I z) = e_rI (e_E (D + 15) w (.ref 1 :: (as ++ [.ref 538])) (mk I z)) (fun v σ => e_L (D + 15) 325 P1 [.ref 1000000, .ref 1, .ref 489, .ref 538, .int x4, u5, u6] [.int v] σ) H0)
    (h1 : ∀ v I1 (z1 : e_Z), z1.2.2.2 = z.2.2.2 → ∃ H1 : Nat → e_S → e_X, e_L (D + 15) 325 P1 [.ref 1000000, .ref 1, .ref 489, .ref 538, .int x4, u5, u6] [.int v] (mk I1 z1) = e_rI (e_E (D + 15) y' (.ref 489 :: as) (mk I1 z1)) (fun b σ => e_L (D + 15) 325 P2 [.ref 1000000, .ref 1, .ref 489, .ref 538, .int x4, .int v, u6] [.int b] σ) H1)
    (h2 : ∀ v b I2 (z2 : e_Z), I2 489 0 = v → (v = 0 → z2.1 538 (e_n 0).toNatClampNeg = f b) → e_L (D + 15) 325 P2 [.ref 1000000, .ref 1, .ref 489, .ref 538, .int x4, .int v, u6] [.int b] (mk I2 z2) = e_L (D + 15) 325 2323 [.ref 1000000, .ref 1, .ref 489, .ref 538, .int x4, .int v, .int b] [] (mk I2 z2)) : Nx D P0 I z x4 u5 u6 := by
  obtain ⟨r, I1, z1, hz, hE, hok, hr⟩ := hF
  obtain ⟨p1, p2, p3, p4⟩ := zo_p (f := f) (r := r) (z := z1)
  obtain ⟨I2, z3, B', b, e1, k1, k2, hR, hO⟩ := hr (zo f r z1) p1
  have e2 : e_E (D + 15) y' (.ref 489 :: as) (mk I1 (zo f r z1)) = some (.inl (some (.int b)), mk I2 z3) := e_E_up (d := D + 14) e1
  have hs : z1.2.2 = z.2.2 := hz.2
  refine ⟨I2, z3, B', .int (wk c1 r), .int b, ?_, hR, by rw [k1, p2, hs], by rw [k1, ← hs]; exact p3, by rw [k1, ← hs]; exact p4⟩
  obtain ⟨H1, h1'⟩ := h1 (wk c1 r) I1 (zo f r z1) (by rw [p2, hs])
  rw [h0, hw r I1 z1 hE hok, e_rI_i, h1', e2, e_rI_i]
  refine h2 _ _ _ _ ?_ ?_
  · cases r with
    | inl v => exact hO.1
    | inr e => exact hO
  · intro hw0
    cases r with
    | inl v =>
      have hb : b = v := hO.2
      rw [hb, k2]
      show e_u z1.1 538 (e_n 0).toNatClampNeg (f v) 538 (e_n 0).toNatClampNeg = f v
      unfold e_u
      simp
    | inr e =>
      exfalso
      have : (if e = 0 then e_n 1 else c1) = 0 := hw0
      by_cases he : e = 0
      · rw [if_pos he] at this; exact absurd this (by decide)
      · rw [if_neg he] at this; exact hc this
theorem dir_ok {D y y' P0 P1 P2 : Nat} {c1 : Int32} {I : Nat → Nat → Int32} {z : e_Z} {as : List Value} {x4 : Int32} {u5 u6 : Value} {H0 : Nat → e_S → e_X}
    (hF : FaceX (fun _ => False) (D + 5) c1 I z y y' as)
    (h0 : e_L (D + 15) 325 P0 [.ref 1000000, .ref 1, .ref 489, .ref 538, .int x4, u5, u6] [] (mk I z) = e_rI (e_E (D + 15) y (.ref 1 :: as) (mk I z)) (fun v σ => e_L (D + 15) 325 P1 [.ref 1000000, .ref 1, .ref 489, .ref 538, .int x4, u5, u6] [.int v] σ) H0)
    (h1 : ∀ v I1 (z1 : e_Z), z1.2.2.2 = z.2.2.2 → ∃ H1 : Nat → e_S → e_X, e_L (D + 15) 325 P1 [.ref 1000000, .ref 1, .ref 489, .ref 538, .int x4, u5, u6] [.int v] (mk I1 z1) = e_rI (e_E (D + 15) y' (.ref 489 :: as) (mk I1 z1)) (fun b σ => e_L (D + 15) 325 P2 [.ref 1000000, .ref 1, .ref 489, .ref 538, .int x4, u5, u6] [.int b, .int v] σ) H1)
    (h2 : ∀ v I2 (z2 : e_Z), e_L (D + 15) 325 P2 [.ref 1000000, .ref 1, .ref 489, .ref 538, .int x4, u5, u6] [.int v, .int v] (mk I2 z2) = e_L (D + 15) 325 2323 [.ref 1000000, .ref 1, .ref 489, .ref 538, .int x4, u5, u6] [] (mk I2 z2)) : Nx D P0 I z x4 u5 u6 := by
  obtain ⟨r, I1, z1, hz, hE, hok, hr⟩ := hF
  cases r with
  | inr e => exact absurd rfl (fun h => hok e h)
  | inl v =>
    obtain ⟨I2, B', b, e1, hR, hO⟩ := hr z1 rfl
    have hs : z1.2.2 = z.2.2 := hz.2
    have hb : b = v := hO.2
    subst hb
    have hE' : e_E (D + 15) y (.ref 1 :: as) (mk I z) = some (.inl (some (.int b)), mk I1 z1) := hE
    have e2 : e_E (D + 15) y' (.ref 489 :: as) (mk I1 z1) = some (.inl (some (.int b)), mk I2 z1) := e1
    refine ⟨I2, z1, B', u5, u6, ?_, hR, by rw [hs], by rw [hs]; exact Nat.le_succ _, by rw [hs]; exact Nat.le_add_right _ _⟩
    obtain ⟨H1, h1'⟩ := h1 b I1 z1 (by rw [hs])
    rw [h0, hE', e_rI_i, h1', e2, e_rI_i]
    exact h2 _ _ _
theorem tf01' (p : Prop) [Decidable p] : tf p = e_n 0 ∨ tf p = e_n 1 := by
  unfold tf
  by_cases h : p
  · rw [if_pos h]; exact Or.inr rfl
  · rw [if_neg h]; exact Or.inl rfl
theorem L220 {D : Nat} {I : Nat → Nat → Int32} {z : e_Z} {B : e_B} {x4 : Int32} {u5 u6 : Value} (H : Rel I z B) (g1 : InR (x4 + (e_n 1)) z.2.2.2.1) (g2 : InR (x4 + (e_n 2)) z.2.2.2.1) (g3 : InR (x4 + (e_n 3)) z.2.2.2.1) (g4 : InR (x4 + (e_n 4)) z.2.2.2.1) (g5 : InR (x4 + (e_n 5)) z.2.2.2.1) : Nx D 220 I z x4 u5 u6 := by
  refine dir_ok (y := 116) (y' := 182) (P1 := 254) (P2 := 288) (c1 := e_n 2) (as := [.int (z.2.2.2.2 (x4 + (e_n 1)).toNatClampNeg), .int (z.2.2.2.2 (x4 + (e_n 2)).toNatClampNeg), .int (z.2.2.2.2 (x4 + (e_n 3)).toNatClampNeg), .int (z.2.2.2.2 (x4 + (e_n 4)).toNatClampNeg), .int (z.2.2.2.2 (x4 + (e_n 5)).toNatClampNeg)]) (X116 H) (C325_220 (d := D) g1 g2 g3 g4 g5) (fun v I1 z1 hz => ?_) (fun v I2 z2 => ?_)
  · have := C325_254 (d := D) (I := I1) (z := z1) (x4 := x4) (y0 := v) (u5 := u5) (u6 := u6) (by rw [hz]; exact g1) (by rw [hz]; exact g2) (by rw [hz]; exact g3) (by rw [hz]; exact g4) (by rw [hz]; exact g5)
    rw [hz] at this
    exact ⟨_, this⟩
  · rw [C325_288, if_pos rfl]
theorem L293 {D : Nat} {I : Nat → Nat → Int32} {z : e_Z} {B : e_B} {x4 : Int32} {u5 u6 : Value} (H : Rel I z B) (hF : ∀ x1, FaceY (fun e => e = 1) (D + 4) (e_n 1) I z 118 216 [.int x1]) (g1 : InR (x4 + (e_n 1)) z.2.2.2.1) (g2 : InR (x4 + (e_n 2)) z.2.2.2.1) (g3 : InR (x4 + (e_n 3)) z.2.2.2.1) (g4 : InR (x4 + (e_n 4)) z.2.2.2.1) (g5 : InR (x4 + (e_n 5)) z.2.2.2.1) : Nx D 293 I z x4 u5 u6 := by
  refine cmp_okY (y := 118) (y' := 216) (w := 296) (P1 := 304) (P2 := 316) (c1 := (e_n 1)) (f := Int32.toInt64) (as := [.int (z.2.2.2.2 (x4 + (e_n 1)).toNatClampNeg)]) (hF _) (by decide) (fun r I1 z1 h hok => W296 h hok) (C325_293 (d := D) g1) (fun v I1 z1 hz => ?_) (fun v b I2 z2 h1 h2 => ?_)
  · have := C325_304 (d := D) (I := I1) (z := z1) (x4 := x4) (y0 := v) (u5 := u5) (u6 := u6) (by rw [hz]; exact g1)
    rw [hz] at this
    exact ⟨_, this⟩
  · rw [C325_316, if_pos h1]
    by_cases hv : v = 0
    · rw [if_pos hv, h2 hv, lg_same, if_pos rfl]
    · rw [if_neg hv]
theorem L362 {D : Nat} {I : Nat → Nat → Int32} {z : e_Z} {B : e_B} {x4 : Int32} {u5 u6 : Value} (H : Rel I z B) (g1 : InR (x4 + (e_n 1)) z.2.2.2.1) (g2 : InR (x4 + (e_n 2)) z.2.2.2.1) (g3 : InR (x4 + (e_n 3)) z.2.2.2.1) (g4 : InR (x4 + (e_n 4)) z.2.2.2.1) (g5 : InR (x4 + (e_n 5)) z.2.2.2.1) : Nx D 362 I z x4 u5 u6 := by
  refine cmp_ok (y := 121) (y' := 242) (w := 297) (P1 := 373) (P2 := 385) (c1 := (e_n 2)) (f := Int32.toInt64) (as := [.int (z.2.2.2.2 (x4 + (e_n 1)).toNatClampNeg)]) (face_0 (fun c1 => F121 H)) (by decide) (fun r I1 z1 h hok => W297 h hok) (C325_362 (d := D) g1) (fun v I1 z1 hz => ?_) (fun v b I2 z2 h1 h2 => ?_)
  · have := C325_373 (d := D) (I := I1) (z := z1) (x4 := x4) (y0 := v) (u5 := u5) (u6 := u6) (by rw [hz]; exact g1)
    rw [hz] at this
    exact ⟨_, this⟩
  · rw [C325_385, if_pos h1]
    by_cases hv : v = 0
    · rw [if_pos hv, h2 hv, lg_same, if_pos rfl]
    · rw [if_neg hv]
theorem L418 {D : Nat} {I : Nat → Nat → Int32} {z : e_Z} {B : e_B} {x4 : Int32} {u5 u6 : Value} (H : Rel I z B) (g1 : InR (x4 + (e_n 1)) z.2.2.2.1) (g2 : InR (x4 + (e_n 2)) z.2.2.2.1) (g3 : InR (x4 + (e_n 3)) z.2.2.2.1) (g4 : InR (x4 + (e_n 4)) z.2.2.2.1) (g5 : InR (x4 + (e_n 5)) z.2.2.2.1) : Nx D 418 I z x4 u5 u6 := by
  refine cmp_ok (y := 122) (y' := 247) (w := 298) (P1 := 435) (P2 := 453) (c1 := (e_n 2)) (f := Int32.toInt64) (as := [.int (z.2.2.2.2 (x4 + (e_n 1)).toNatClampNeg), .int (z.2.2.2.2 (x4 + (e_n 2)).toNatClampNeg)]) (face_0 (fun c1 => F122 H)) (by decide) (fun r I1 z1 h hok => W298 h hok) (C325_418 (d := D) g1 g2) (fun v I1 z1 hz => ?_) (fun v b I2 z2 h1 h2 => ?_)
  · have := C325_435 (d := D) (I := I1) (z := z1) (x4 := x4) (y0 := v) (u5 := u5) (u6 := u6) (by rw [hz]; exact g1) (by rw [hz]; exact g2)
    rw [hz] at this
    exact ⟨_, this⟩
  · rw [C325_453, if_pos h1]
    by_cases hv : v = 0
    · rw [if_pos hv, h2 hv, lg_same, if_pos rfl]
    · rw [if_neg hv]
theorem L486 {D : Nat} {I : Nat → Nat → Int32} {z : e_Z} {B : e_B} {x4 : Int32} {u5 u6 : Value} (H : Rel I z B) (g1 : InR (x4 + (e_n 1)) z.2.2.2.1) (g2 : InR (x4 + (e_n 2)) z.2.2.2.1) (g3 : InR (x4 + (e_n 3)) z.2.2.2.1) (g4 : InR (x4 + (e_n 4)) z.2.2.2.1) (g5 : InR (x4 + (e_n 5)) z.2.2.2.1) : Nx D 486 I z x4 u5 u6 := by
  refine cmp_ok (y := 123) (y' := 248) (w := 299) (P1 := 503) (P2 := 521) (c1 := (e_n 2)) (f := Int32.toInt64) (as := [.int (z.2.2.2.2 (x4 + (e_n 1)).toNatClampNeg), .int (z.2.2.2.2 (x4 + (e_n 2)).toNatClampNeg)]) (face_0 (fun c1 => F123 H)) (by decide) (fun r I1 z1 h hok => W299 h hok) (C325_486 (d := D) g1 g2) (fun v I1 z1 hz => ?_) (fun v b I2 z2 h1 h2 => ?_)
  · have := C325_503 (d := D) (I := I1) (z := z1) (x4 := x4) (y0 := v) (u5 := u5) (u6 := u6) (by rw [hz]; exact g1) (by rw [hz]; exact g2)
    rw [hz] at this
    exact ⟨_, this⟩
  · rw [C325_521, if_pos h1]
    by_cases hv : v = 0
    · rw [if_pos hv, h2 hv, lg_same, if_pos rfl]
    · rw [if_neg hv]
theorem L554 {D : Nat} {I : Nat → Nat → Int32} {z : e_Z} {B : e_B} {x4 : Int32} {u5 u6 : Value} (H : Rel I z B) (g1 : InR (x4 + (e_n 1)) z.2.2.2.1) (g2 : InR (x4 + (e_n 2)) z.2.2.2.1) (g3 : InR (x4 + (e_n 3)) z.2.2.2.1) (g4 : InR (x4 + (e_n 4)) z.2.2.2.1) (g5 : InR (x4 + (e_n 5)) z.2.2.2.1) : Nx D 554 I z x4 u5 u6 := by
  refine cmp_ok (y := 124) (y' := 249) (w := 300) (P1 := 571) (P2 := 589) (c1 := (e_n 2)) (f := Int32.toInt64) (as := [.int (z.2.2.2.2 (x4 + (e_n 1)).toNatClampNeg), .int (z.2.2.2.2 (x4 + (e_n 2)).toNatClampNeg)]) (face_0 (fun c1 => F124 H)) (by decide) (fun r I1 z1 h hok => W300 h hok) (C325_554 (d := D) g1 g2) (fun v I1 z1 hz => ?_) (fun v b I2 z2 h1 h2 => ?_)
  · have := C325_571 (d := D) (I := I1) (z := z1) (x4 := x4) (y0 := v) (u5 := u5) (u6 := u6) (by rw [hz]; exact g1) (by rw [hz]; exact g2)
    rw [hz] at this
    exact ⟨_, this⟩
  · rw [C325_589, if_pos h1]
    by_cases hv : v = 0
    · rw [if_pos hv, h2 hv, lg_same, if_pos rfl]
    · rw [if_neg hv]
theorem L622 {D : Nat} {I : Nat → Nat → Int32} {z : e_Z} {B : e_B} {x4 : Int32} {u5 u6 : Value} (H : Rel I z B) (g1 : InR (x4 + (e_n 1)) z.2.2.2.1) (g2 : InR (x4 + (e_n 2)) z.2.2.2.1) (g3 : InR (x4 + (e_n 3)) z.2.2.2.1) (g4 : InR (x4 + (e_n 4)) z.2.2.2.1) (g5 : InR (x4 + (e_n 5)) z.2.2.2.1) : Nx D 622 I z x4 u5 u6 := by
  refine cmp_ok (y := 125) (y' := 250) (w := 301) (P1 := 639) (P2 := 657) (c1 := (e_n 2)) (f := Int32.toInt64) (as := [.int (z.2.2.2.2 (x4 + (e_n 1)).toNatClampNeg), .int (z.2.2.2.2 (x4 + (e_n 2)).toNatClampNeg)]) (face_0 (fun c1 => F125 H)) (by decide) (fun r I1 z1 h hok => W301 h hok) (C325_622 (d := D) g1 g2) (fun v I1 z1 hz => ?_) (fun v b I2 z2 h1 h2 => ?_)
  · have := C325_639 (d := D) (I := I1) (z := z1) (x4 := x4) (y0 := v) (u5 := u5) (u6 := u6) (by rw [hz]; exact g1) (by rw [hz]; exact g2)
    rw [hz] at this
    exact ⟨_, this⟩
  · rw [C325_657, if_pos h1]
    by_cases hv : v = 0
    · rw [if_pos hv, h2 hv, lg_same, if_pos rfl]
    · rw [if_neg hv]
theorem L690 {D : Nat} {I : Nat → Nat → Int32} {z : e_Z} {B : e_B} {x4 : Int32} {u5 u6 : Value} (H : Rel I z B) (g1 : InR (x4 + (e_n 1)) z.2.2.2.1) (g2 : InR (x4 + (e_n 2)) z.2.2.2.1) (g3 : InR (x4 + (e_n 3)) z.2.2.2.1) (g4 : InR (x4 + (e_n 4)) z.2.2.2.1) (g5 : InR (x4 + (e_n 5)) z.2.2.2.1) : Nx D 690 I z x4 u5 u6 := by
  refine dir_ok (y := 127) (y' := 251) (P1 := 700) (P2 := 710) (c1 := e_n 2) (as := [.int (z.2.2.2.2 (x4 + (e_n 1)).toNatClampNeg)]) (X127 H) (C325_690 (d := D) g1) (fun v I1 z1 hz => ?_) (fun v I2 z2 => ?_)
  · have := C325_700 (d := D) (I := I1) (z := z1) (x4 := x4) (y0 := v) (u5 := u5) (u6 := u6) (by rw [hz]; exact g1)
    rw [hz] at this
    exact ⟨_, this⟩
  · rw [C325_710, if_pos rfl]
theorem L715 {D : Nat} {I : Nat → Nat → Int32} {z : e_Z} {B : e_B} {x4 : Int32} {u5 u6 : Value} (H : Rel I z B) (g1 : InR (x4 + (e_n 1)) z.2.2.2.1) (g2 : InR (x4 + (e_n 2)) z.2.2.2.1) (g3 : InR (x4 + (e_n 3)) z.2.2.2.1) (g4 : InR (x4 + (e_n 4)) z.2.2.2.1) (g5 : InR (x4 + (e_n 5)) z.2.2.2.1) : Nx D 715 I z x4 u5 u6 := by
  refine cmp_ok (y := 128) (y' := 254) (w := 302) (P1 := 732) (P2 := 750) (c1 := (e_n 2)) (f := Int32.toInt64) (as := [.int (z.2.2.2.2 (x4 + (e_n 1)).toNatClampNeg), .int (z.2.2.2.2 (x4 + (e_n 2)).toNatClampNeg)]) (face_0 (fun c1 => F128 H)) (by decide) (fun r I1 z1 h hok => W302 h hok) (C325_715 (d := D) g1 g2) (fun v I1 z1 hz => ?_) (fun v b I2 z2 h1 h2 => ?_)
  · have := C325_732 (d := D) (I := I1) (z := z1) (x4 := x4) (y0 := v) (u5 := u5) (u6 := u6) (by rw [hz]; exact g1) (by rw [hz]; exact g2)
    rw [hz] at this
    exact ⟨_, this⟩
  · rw [C325_750, if_pos h1]
    by_cases hv : v = 0
    · rw [if_pos hv, h2 hv, lg_same, if_pos rfl]
    · rw [if_neg hv]
theorem L783 {D : Nat} {I : Nat → Nat → Int32} {z : e_Z} {B : e_B} {x4 : Int32} {u5 u6 : Value} (H : Rel I z B) (g1 : InR (x4 + (e_n 1)) z.2.2.2.1) (g2 : InR (x4 + (e_n 2)) z.2.2.2.1) (g3 : InR (x4 + (e_n 3)) z.2.2.2.1) (g4 : InR (x4 + (e_n 4)) z.2.2.2.1) (g5 : InR (x4 + (e_n 5)) z.2.2.2.1) : Nx D 783 I z x4 u5 u6 := by
  refine cmp_ok (y := 129) (y' := 255) (w := 303) (P1 := 794) (P2 := 806) (c1 := (e_n 2)) (f := bo) (as := [.int (z.2.2.2.2 (x4 + (e_n 1)).toNatClampNeg)]) (face_0 (fun c1 => F129 H)) (by decide) (fun r I1 z1 h hok => W303 h hok) (C325_783 (d := D) g1) (fun v I1 z1 hz => ?_) (fun v b I2 z2 h1 h2 => ?_)
  · have := C325_794 (d := D) (I := I1) (z := z1) (x4 := x4) (y0 := v) (u5 := u5) (u6 := u6) (by rw [hz]; exact g1)
    rw [hz] at this
    exact ⟨_, this⟩
  · rw [C325_806, if_pos h1]
    by_cases hv : v = 0
    · rw [if_pos hv]
      by_cases hb : b = 0
      · rw [if_pos hb, h2 hv]; unfold bo; rw [if_pos hb, lg_same, if_pos rfl]
      · rw [if_neg hb, h2 hv]; unfold bo; rw [if_neg hb, lg_same, if_pos rfl]
    · rw [if_neg hv]
theorem L846 {D : Nat} {I : Nat → Nat → Int32} {z : e_Z} {B : e_B} {x4 : Int32} {u5 u6 : Value} (H : Rel I z B) (g1 : InR (x4 + (e_n 1)) z.2.2.2.1) (g2 : InR (x4 + (e_n 2)) z.2.2.2.1) (g3 : InR (x4 + (e_n 3)) z.2.2.2.1) (g4 : InR (x4 + (e_n 4)) z.2.2.2.1) (g5 : InR (x4 + (e_n 5)) z.2.2.2.1) : Nx D 846 I z x4 u5 u6 := by
  refine cmp_ok (y := 130) (y' := 256) (w := 304) (P1 := 857) (P2 := 869) (c1 := (e_n 2)) (f := Int32.toInt64) (as := [.int (z.2.2.2.2 (x4 + (e_n 1)).toNatClampNeg)]) (face_0 (fun c1 => F130 H)) (by decide) (fun r I1 z1 h hok => W304 h hok) (C325_846 (d := D) g1) (fun v I1 z1 hz => ?_) (fun v b I2 z2 h1 h2 => ?_)
  · have := C325_857 (d := D) (I := I1) (z := z1) (x4 := x4) (y0 := v) (u5 := u5) (u6 := u6) (by rw [hz]; exact g1)
    rw [hz] at this
    exact ⟨_, this⟩
  · rw [C325_869, if_pos h1]
    by_cases hv : v = 0
    · rw [if_pos hv, h2 hv, lg_same, if_pos rfl]
    · rw [if_neg hv]
theorem L902 {D : Nat} {I : Nat → Nat → Int32} {z : e_Z} {B : e_B} {x4 : Int32} {u5 u6 : Value} (H : Rel I z B) (g1 : InR (x4 + (e_n 1)) z.2.2.2.1) (g2 : InR (x4 + (e_n 2)) z.2.2.2.1) (g3 : InR (x4 + (e_n 3)) z.2.2.2.1) (g4 : InR (x4 + (e_n 4)) z.2.2.2.1) (g5 : InR (x4 + (e_n 5)) z.2.2.2.1) : Nx D 902 I z x4 u5 u6 := by
  refine dir_ok (y := 131) (y' := 257) (P1 := 920) (P2 := 938) (c1 := e_n 2) (as := [.int (tf (¬ (z.2.2.2.2 (x4 + (e_n 1)).toNatClampNeg = 0)))]) (X131 H (tf01' _)) (C325_902 (d := D) g1) (fun v I1 z1 hz => ?_) (fun v I2 z2 => ?_)
  · have := C325_920 (d := D) (I := I1) (z := z1) (x4 := x4) (y0 := v) (u5 := u5) (u6 := u6) (by rw [hz]; exact g1)
    rw [hz] at this
    exact ⟨_, this⟩
  · rw [C325_938, if_pos rfl]
theorem L943 {D : Nat} {I : Nat → Nat → Int32} {z : e_Z} {B : e_B} {x4 : Int32} {u5 u6 : Value} (H : Rel I z B) (g1 : InR (x4 + (e_n 1)) z.2.2.2.1) (g2 : InR (x4 + (e_n 2)) z.2.2.2.1) (g3 : InR (x4 + (e_n 3)) z.2.2.2.1) (g4 : InR (x4 + (e_n 4)) z.2.2.2.1) (g5 : InR (x4 + (e_n 5)) z.2.2.2.1) : Nx D 943 I z x4 u5 u6 := by
  refine dir_ok (y := 132) (y' := 220) (P1 := 947) (P2 := 951) (c1 := e_n 2) (as := []) (X132 H) (C325_943 (d := D) ) (fun v I1 z1 hz => ?_) (fun v I2 z2 => ?_)
  · exact ⟨_, C325_947 (d := D)⟩
  · rw [C325_951, if_pos rfl]
theorem L956 {D : Nat} {I : Nat → Nat → Int32} {z : e_Z} {B : e_B} {x4 : Int32} {u5 u6 : Value} (H : Rel I z B) (g1 : InR (x4 + (e_n 1)) z.2.2.2.1) (g2 : InR (x4 + (e_n 2)) z.2.2.2.1) (g3 : InR (x4 + (e_n 3)) z.2.2.2.1) (g4 : InR (x4 + (e_n 4)) z.2.2.2.1) (g5 : InR (x4 + (e_n 5)) z.2.2.2.1) : Nx D 956 I z x4 u5 u6 := by
  refine cmp_ok (y := 137) (y' := 258) (w := 305) (P1 := 973) (P2 := 991) (c1 := (e_n 2)) (f := Int32.toInt64) (as := [.int (z.2.2.2.2 (x4 + (e_n 1)).toNatClampNeg), .int (z.2.2.2.2 (x4 + (e_n 2)).toNatClampNeg)]) (face_0 (fun c1 => F137 H)) (by decide) (fun r I1 z1 h hok => W305 h hok) (C325_956 (d := D) g1 g2) (fun v I1 z1 hz => ?_) (fun v b I2 z2 h1 h2 => ?_)
  · have := C325_973 (d := D) (I := I1) (z := z1) (x4 := x4) (y0 := v) (u5 := u5) (u6 := u6) (by rw [hz]; exact g1) (by rw [hz]; exact g2)
    rw [hz] at this
    exact ⟨_, this⟩
  · rw [C325_991, if_pos h1]
    by_cases hv : v = 0
    · rw [if_pos hv, h2 hv, lg_same, if_pos rfl]
    · rw [if_neg hv]
theorem L1024 {D : Nat} {I : Nat → Nat → Int32} {z : e_Z} {B : e_B} {x4 : Int32} {u5 u6 : Value} (H : Rel I z B) (g1 : InR (x4 + (e_n 1)) z.2.2.2.1) (g2 : InR (x4 + (e_n 2)) z.2.2.2.1) (g3 : InR (x4 + (e_n 3)) z.2.2.2.1) (g4 : InR (x4 + (e_n 4)) z.2.2.2.1) (g5 : InR (x4 + (e_n 5)) z.2.2.2.1) : Nx D 1024 I z x4 u5 u6 := by
  refine cmp_ok (y := 138) (y' := 259) (w := 306) (P1 := 1035) (P2 := 1047) (c1 := (e_n 2)) (f := Int32.toInt64) (as := [.int (z.2.2.2.2 (x4 + (e_n 1)).toNatClampNeg)]) (face_0 (fun c1 => F138 H)) (by decide) (fun r I1 z1 h hok => W306 h hok) (C325_1024 (d := D) g1) (fun v I1 z1 hz => ?_) (fun v b I2 z2 h1 h2 => ?_)
  · have := C325_1035 (d := D) (I := I1) (z := z1) (x4 := x4) (y0 := v) (u5 := u5) (u6 := u6) (by rw [hz]; exact g1)
    rw [hz] at this
    exact ⟨_, this⟩
  · rw [C325_1047, if_pos h1]
    by_cases hv : v = 0
    · rw [if_pos hv, h2 hv, lg_same, if_pos rfl]
    · rw [if_neg hv]
theorem L1080 {D : Nat} {I : Nat → Nat → Int32} {z : e_Z} {B : e_B} {x4 : Int32} {u5 u6 : Value} (H : Rel I z B) (g1 : InR (x4 + (e_n 1)) z.2.2.2.1) (g2 : InR (x4 + (e_n 2)) z.2.2.2.1) (g3 : InR (x4 + (e_n 3)) z.2.2.2.1) (g4 : InR (x4 + (e_n 4)) z.2.2.2.1) (g5 : InR (x4 + (e_n 5)) z.2.2.2.1) : Nx D 1080 I z x4 u5 u6 := by
  refine cmp_ok (y := 139) (y' := 260) (w := 307) (P1 := 1091) (P2 := 1103) (c1 := (e_n 1)) (f := Int32.toInt64) (as := [.int (z.2.2.2.2 (x4 + (e_n 1)).toNatClampNeg)]) (X139 H) (by decide) (fun r I1 z1 h hok => W307 h hok) (C325_1080 (d := D) g1) (fun v I1 z1 hz => ?_) (fun v b I2 z2 h1 h2 => ?_)
  · have := C325_1091 (d := D) (I := I1) (z := z1) (x4 := x4) (y0 := v) (u5 := u5) (u6 := u6) (by rw [hz]; exact g1)
    rw [hz] at this
    exact ⟨_, this⟩
  · rw [C325_1103, if_pos h1]
    by_cases hv : v = 0
    · rw [if_pos hv, h2 hv, lg_same, if_pos rfl]
    · rw [if_neg hv]
theorem L1136 {D : Nat} {I : Nat → Nat → Int32} {z : e_Z} {B : e_B} {x4 : Int32} {u5 u6 : Value} (H : Rel I z B) (g1 : InR (x4 + (e_n 1)) z.2.2.2.1) (g2 : InR (x4 + (e_n 2)) z.2.2.2.1) (g3 : InR (x4 + (e_n 3)) z.2.2.2.1) (g4 : InR (x4 + (e_n 4)) z.2.2.2.1) (g5 : InR (x4 + (e_n 5)) z.2.2.2.1) : Nx D 1136 I z x4 u5 u6 := by
  refine cmp_ok (y := 140) (y' := 261) (w := 308) (P1 := 1153) (P2 := 1171) (c1 := (e_n 2)) (f := Int32.toInt64) (as := [.int (z.2.2.2.2 (x4 + (e_n 1)).toNatClampNeg), .int (z.2.2.2.2 (x4 + (e_n 2)).toNatClampNeg)]) (X140 H) (by decide) (fun r I1 z1 h hok => W308 h hok) (C325_1136 (d := D) g1 g2) (fun v I1 z1 hz => ?_) (fun v b I2 z2 h1 h2 => ?_)
  · have := C325_1153 (d := D) (I := I1) (z := z1) (x4 := x4) (y0 := v) (u5 := u5) (u6 := u6) (by rw [hz]; exact g1) (by rw [hz]; exact g2)
    rw [hz] at this
    exact ⟨_, this⟩
  · rw [C325_1171, if_pos h1]
    by_cases hv : v = 0
    · rw [if_pos hv, h2 hv, lg_same, if_pos rfl]
    · rw [if_neg hv]
theorem L1204 {D : Nat} {I : Nat → Nat → Int32} {z : e_Z} {B : e_B} {x4 : Int32} {u5 u6 : Value} (H : Rel I z B) (g1 : InR (x4 + (e_n 1)) z.2.2.2.1) (g2 : InR (x4 + (e_n 2)) z.2.2.2.1) (g3 : InR (x4 + (e_n 3)) z.2.2.2.1) (g4 : InR (x4 + (e_n 4)) z.2.2.2.1) (g5 : InR (x4 + (e_n 5)) z.2.2.2.1) : Nx D 1204 I z x4 u5 u6 := by
  refine cmp_ok (y := 141) (y' := 262) (w := 309) (P1 := 1215) (P2 := 1227) (c1 := (e_n 2)) (f := Int32.toInt64) (as := [.int (z.2.2.2.2 (x4 + (e_n 1)).toNatClampNeg)]) (face_0 (fun c1 => F141 H)) (by decide) (fun r I1 z1 h hok => W309 h hok) (C325_1204 (d := D) g1) (fun v I1 z1 hz => ?_) (fun v b I2 z2 h1 h2 => ?_)
  · have := C325_1215 (d := D) (I := I1) (z := z1) (x4 := x4) (y0 := v) (u5 := u5) (u6 := u6) (by rw [hz]; exact g1)
    rw [hz] at this
    exact ⟨_, this⟩
  · rw [C325_1227, if_pos h1]
    by_cases hv : v = 0
    · rw [if_pos hv, h2 hv, lg_same, if_pos rfl]
    · rw [if_neg hv]
theorem L1260 {D : Nat} {I : Nat → Nat → Int32} {z : e_Z} {B : e_B} {x4 : Int32} {u5 u6 : Value} (H : Rel I z B) (g1 : InR (x4 + (e_n 1)) z.2.2.2.1) (g2 : InR (x4 + (e_n 2)) z.2.2.2.1) (g3 : InR (x4 + (e_n 3)) z.2.2.2.1) (g4 : InR (x4 + (e_n 4)) z.2.2.2.1) (g5 : InR (x4 + (e_n 5)) z.2.2.2.1) : Nx D 1260 I z x4 u5 u6 := by
  refine cmp_ok (y := 149) (y' := 270) (w := 310) (P1 := 1271) (P2 := 1283) (c1 := (e_n 2)) (f := Int32.toInt64) (as := [.int (z.2.2.2.2 (x4 + (e_n 1)).toNatClampNeg)]) (face_0 (fun c1 => F149 H)) (by decide) (fun r I1 z1 h hok => W310 h hok) (C325_1260 (d := D) g1) (fun v I1 z1 hz => ?_) (fun v b I2 z2 h1 h2 => ?_)
  · have := C325_1271 (d := D) (I := I1) (z := z1) (x4 := x4) (y0 := v) (u5 := u5) (u6 := u6) (by rw [hz]; exact g1)
    rw [hz] at this
    exact ⟨_, this⟩
  · rw [C325_1283, if_pos h1]
    by_cases hv : v = 0
    · rw [if_pos hv, h2 hv, lg_same, if_pos rfl]
    · rw [if_neg hv]
theorem L1316 {D : Nat} {I : Nat → Nat → Int32} {z : e_Z} {B : e_B} {x4 : Int32} {u5 u6 : Value} (H : Rel I z B) (g1 : InR (x4 + (e_n 1)) z.2.2.2.1) (g2 : InR (x4 + (e_n 2)) z.2.2.2.1) (g3 : InR (x4 + (e_n 3)) z.2.2.2.1) (g4 : InR (x4 + (e_n 4)) z.2.2.2.1) (g5 : InR (x4 + (e_n 5)) z.2.2.2.1) : Nx D 1316 I z x4 u5 u6 := by
  refine cmp_ok (y := 150) (y' := 271) (w := 311) (P1 := 1327) (P2 := 1339) (c1 := (e_n 2)) (f := Int32.toInt64) (as := [.int (z.2.2.2.2 (x4 + (e_n 1)).toNatClampNeg)]) (face_0 (fun c1 => F150 H)) (by decide) (fun r I1 z1 h hok => W311 h hok) (C325_1316 (d := D) g1) (fun v I1 z1 hz => ?_) (fun v b I2 z2 h1 h2 => ?_)
  · have := C325_1327 (d := D) (I := I1) (z := z1) (x4 := x4) (y0 := v) (u5 := u5) (u6 := u6) (by rw [hz]; exact g1)
    rw [hz] at this
    exact ⟨_, this⟩
  · rw [C325_1339, if_pos h1]
    by_cases hv : v = 0
    · rw [if_pos hv, h2 hv, lg_same, if_pos rfl]
    · rw [if_neg hv]
theorem L1372 {D : Nat} {I : Nat → Nat → Int32} {z : e_Z} {B : e_B} {x4 : Int32} {u5 u6 : Value} (H : Rel I z B) (g1 : InR (x4 + (e_n 1)) z.2.2.2.1) (g2 : InR (x4 + (e_n 2)) z.2.2.2.1) (g3 : InR (x4 + (e_n 3)) z.2.2.2.1) (g4 : InR (x4 + (e_n 4)) z.2.2.2.1) (g5 : InR (x4 + (e_n 5)) z.2.2.2.1) : Nx D 1372 I z x4 u5 u6 := by
  refine cmp_ok (y := 151) (y' := 273) (w := 312) (P1 := 1389) (P2 := 1407) (c1 := (e_n 2)) (f := Int32.toInt64) (as := [.int (z.2.2.2.2 (x4 + (e_n 1)).toNatClampNeg), .int (z.2.2.2.2 (x4 + (e_n 2)).toNatClampNeg)]) (X151 H) (by decide) (fun r I1 z1 h hok => W312 h hok) (C325_1372 (d := D) g1 g2) (fun v I1 z1 hz => ?_) (fun v b I2 z2 h1 h2 => ?_)
  · have := C325_1389 (d := D) (I := I1) (z := z1) (x4 := x4) (y0 := v) (u5 := u5) (u6 := u6) (by rw [hz]; exact g1) (by rw [hz]; exact g2)
    rw [hz] at this
    exact ⟨_, this⟩
  · rw [C325_1407, if_pos h1]
    by_cases hv : v = 0
    · rw [if_pos hv, h2 hv, lg_same, if_pos rfl]
    · rw [if_neg hv]
theorem L1440 {D : Nat} {I : Nat → Nat → Int32} {z : e_Z} {B : e_B} {x4 : Int32} {u5 u6 : Value} (H : Rel I z B) (g1 : InR (x4 + (e_n 1)) z.2.2.2.1) (g2 : InR (x4 + (e_n 2)) z.2.2.2.1) (g3 : InR (x4 + (e_n 3)) z.2.2.2.1) (g4 : InR (x4 + (e_n 4)) z.2.2.2.1) (g5 : InR (x4 + (e_n 5)) z.2.2.2.1) : Nx D 1440 I z x4 u5 u6 := by
  refine cmp_ok (y := 142) (y' := 275) (w := 313) (P1 := 1451) (P2 := 1463) (c1 := (e_n 1)) (f := Int32.toInt64) (as := [.int (z.2.2.2.2 (x4 + (e_n 1)).toNatClampNeg)]) (X142 H) (by decide) (fun r I1 z1 h hok => W313 h hok) (C325_1440 (d := D) g1) (fun v I1 z1 hz => ?_) (fun v b I2 z2 h1 h2 => ?_)
  · have := C325_1451 (d := D) (I := I1) (z := z1) (x4 := x4) (y0 := v) (u5 := u5) (u6 := u6) (by rw [hz]; exact g1)
    rw [hz] at this
    exact ⟨_, this⟩
  · rw [C325_1463, if_pos h1]
    by_cases hv : v = 0
    · rw [if_pos hv, h2 hv, lg_same, if_pos rfl]
    · rw [if_neg hv]
theorem L1496 {D : Nat} {I : Nat → Nat → Int32} {z : e_Z} {B : e_B} {x4 : Int32} {u5 u6 : Value} (H : Rel I z B) (g1 : InR (x4 + (e_n 1)) z.2.2.2.1) (g2 : InR (x4 + (e_n 2)) z.2.2.2.1) (g3 : InR (x4 + (e_n 3)) z.2.2.2.1) (g4 : InR (x4 + (e_n 4)) z.2.2.2.1) (g5 : InR (x4 + (e_n 5)) z.2.2.2.1) : Nx D 1496 I z x4 u5 u6 := by
  refine dir_ok (y := 143) (y' := 276) (P1 := 1500) (P2 := 1504) (c1 := e_n 2) (as := []) (X143 H) (C325_1496 (d := D) ) (fun v I1 z1 hz => ?_) (fun v I2 z2 => ?_)
  · exact ⟨_, C325_1500 (d := D)⟩
  · rw [C325_1504, if_pos rfl]
theorem L1509 {D : Nat} {I : Nat → Nat → Int32} {z : e_Z} {B : e_B} {x4 : Int32} {u5 u6 : Value} (H : Rel I z B) (g1 : InR (x4 + (e_n 1)) z.2.2.2.1) (g2 : InR (x4 + (e_n 2)) z.2.2.2.1) (g3 : InR (x4 + (e_n 3)) z.2.2.2.1) (g4 : InR (x4 + (e_n 4)) z.2.2.2.1) (g5 : InR (x4 + (e_n 5)) z.2.2.2.1) : Nx D 1509 I z x4 u5 u6 := by
  refine cmp_ok (y := 154) (y' := 277) (w := 314) (P1 := 1540) (P2 := 1572) (c1 := (e_n 2)) (f := Int32.toInt64) (as := [.int (z.2.2.2.2 (x4 + (e_n 1)).toNatClampNeg), .int (z.2.2.2.2 (x4 + (e_n 2)).toNatClampNeg), .int (tf (¬ (z.2.2.2.2 (x4 + (e_n 3)).toNatClampNeg = 0)))]) (face_0 (fun c1 => F154 H (tf01' _))) (by decide) (fun r I1 z1 h hok => W314 h hok) (C325_1509 (d := D) g1 g2 g3) (fun v I1 z1 hz => ?_) (fun v b I2 z2 h1 h2 => ?_)
  · have := C325_1540 (d := D) (I := I1) (z := z1) (x4 := x4) (y0 := v) (u5 := u5) (u6 := u6) (by rw [hz]; exact g1) (by rw [hz]; exact g2) (by rw [hz]; exact g3)
    rw [hz] at this
    exact ⟨_, this⟩
  · rw [C325_1572, if_pos h1]
    by_cases hv : v = 0
    · rw [if_pos hv, h2 hv, lg_same, if_pos rfl]
    · rw [if_neg hv]
theorem L1616 {D : Nat} {I : Nat → Nat → Int32} {z : e_Z} {B : e_B} {x4 : Int32} {u5 u6 : Value} (H : Rel I z B) (g1 : InR (x4 + (e_n 1)) z.2.2.2.1) (g2 : InR (x4 + (e_n 2)) z.2.2.2.1) (g3 : InR (x4 + (e_n 3)) z.2.2.2.1) (g4 : InR (x4 + (e_n 4)) z.2.2.2.1) (g5 : InR (x4 + (e_n 5)) z.2.2.2.1) : Nx D 1616 I z x4 u5 u6 := by
  refine cmp_ok (y := 156) (y' := 281) (w := 315) (P1 := 1627) (P2 := 1639) (c1 := (e_n 2)) (f := Int32.toInt64) (as := [.int (z.2.2.2.2 (x4 + (e_n 1)).toNatClampNeg)]) (face_0 (fun c1 => F156 H)) (by decide) (fun r I1 z1 h hok => W315 h hok) (C325_1616 (d := D) g1) (fun v I1 z1 hz => ?_) (fun v b I2 z2 h1 h2 => ?_)
  · have := C325_1627 (d := D) (I := I1) (z := z1) (x4 := x4) (y0 := v) (u5 := u5) (u6 := u6) (by rw [hz]; exact g1)
    rw [hz] at this
    exact ⟨_, this⟩
  · rw [C325_1639, if_pos h1]
    by_cases hv : v = 0
    · rw [if_pos hv, h2 hv, lg_same, if_pos rfl]
    · rw [if_neg hv]
theorem L1672 {D : Nat} {I : Nat → Nat → Int32} {z : e_Z} {B : e_B} {x4 : Int32} {u5 u6 : Value} (H : Rel I z B) (g1 : InR (x4 + (e_n 1)) z.2.2.2.1) (g2 : InR (x4 + (e_n 2)) z.2.2.2.1) (g3 : InR (x4 + (e_n 3)) z.2.2.2.1) (g4 : InR (x4 + (e_n 4)) z.2.2.2.1) (g5 : InR (x4 + (e_n 5)) z.2.2.2.1) : Nx D 1672 I z x4 u5 u6 := by
  refine cmp_ok (y := 157) (y' := 282) (w := 316) (P1 := 1683) (P2 := 1695) (c1 := (e_n 2)) (f := Int32.toInt64) (as := [.int (z.2.2.2.2 (x4 + (e_n 1)).toNatClampNeg)]) (face_0 (fun c1 => F157 H)) (by decide) (fun r I1 z1 h hok => W316 h hok) (C325_1672 (d := D) g1) (fun v I1 z1 hz => ?_) (fun v b I2 z2 h1 h2 => ?_)
  · have := C325_1683 (d := D) (I := I1) (z := z1) (x4 := x4) (y0 := v) (u5 := u5) (u6 := u6) (by rw [hz]; exact g1)
    rw [hz] at this
    exact ⟨_, this⟩
  · rw [C325_1695, if_pos h1]
    by_cases hv : v = 0
    · rw [if_pos hv, h2 hv, lg_same, if_pos rfl]
    · rw [if_neg hv]
theorem L1728 {D : Nat} {I : Nat → Nat → Int32} {z : e_Z} {B : e_B} {x4 : Int32} {u5 u6 : Value} (H : Rel I z B) (g1 : InR (x4 + (e_n 1)) z.2.2.2.1) (g2 : InR (x4 + (e_n 2)) z.2.2.2.1) (g3 : InR (x4 + (e_n 3)) z.2.2.2.1) (g4 : InR (x4 + (e_n 4)) z.2.2.2.1) (g5 : InR (x4 + (e_n 5)) z.2.2.2.1) : Nx D 1728 I z x4 u5 u6 := by
  refine cmp_ok (y := 158) (y' := 283) (w := 317) (P1 := 1739) (P2 := 1751) (c1 := (e_n 1)) (f := Int32.toInt64) (as := [.int (z.2.2.2.2 (x4 + (e_n 1)).toNatClampNeg)]) (X158 H) (by decide) (fun r I1 z1 h hok => W317 h hok) (C325_1728 (d := D) g1) (fun v I1 z1 hz => ?_) (fun v b I2 z2 h1 h2 => ?_)
  · have := C325_1739 (d := D) (I := I1) (z := z1) (x4 := x4) (y0 := v) (u5 := u5) (u6 := u6) (by rw [hz]; exact g1)
    rw [hz] at this
    exact ⟨_, this⟩
  · rw [C325_1751, if_pos h1]
    by_cases hv : v = 0
    · rw [if_pos hv, h2 hv, lg_same, if_pos rfl]
    · rw [if_neg hv]
theorem L1784 {D : Nat} {I : Nat → Nat → Int32} {z : e_Z} {B : e_B} {x4 : Int32} {u5 u6 : Value} (H : Rel I z B) (g1 : InR (x4 + (e_n 1)) z.2.2.2.1) (g2 : InR (x4 + (e_n 2)) z.2.2.2.1) (g3 : InR (x4 + (e_n 3)) z.2.2.2.1) (g4 : InR (x4 + (e_n 4)) z.2.2.2.1) (g5 : InR (x4 + (e_n 5)) z.2.2.2.1) : Nx D 1784 I z x4 u5 u6 := by
  refine cmp_ok (y := 159) (y' := 286) (w := 318) (P1 := 1807) (P2 := 1831) (c1 := (e_n 2)) (f := Int32.toInt64) (as := [.int (z.2.2.2.2 (x4 + (e_n 1)).toNatClampNeg), .int (z.2.2.2.2 (x4 + (e_n 2)).toNatClampNeg), .int (z.2.2.2.2 (x4 + (e_n 3)).toNatClampNeg)]) (X159 H) (by decide) (fun r I1 z1 h hok => W318 h hok) (C325_1784 (d := D) g1 g2 g3) (fun v I1 z1 hz => ?_) (fun v b I2 z2 h1 h2 => ?_)
  · have := C325_1807 (d := D) (I := I1) (z := z1) (x4 := x4) (y0 := v) (u5 := u5) (u6 := u6) (by rw [hz]; exact g1) (by rw [hz]; exact g2) (by rw [hz]; exact g3)
    rw [hz] at this
    exact ⟨_, this⟩
  · rw [C325_1831, if_pos h1]
    by_cases hv : v = 0
    · rw [if_pos hv, h2 hv, lg_same, if_pos rfl]
    · rw [if_neg hv]
theorem L1864 {D : Nat} {I : Nat → Nat → Int32} {z : e_Z} {B : e_B} {x4 : Int32} {u5 u6 : Value} (H : Rel I z B) (g1 : InR (x4 + (e_n 1)) z.2.2.2.1) (g2 : InR (x4 + (e_n 2)) z.2.2.2.1) (g3 : InR (x4 + (e_n 3)) z.2.2.2.1) (g4 : InR (x4 + (e_n 4)) z.2.2.2.1) (g5 : InR (x4 + (e_n 5)) z.2.2.2.1) : Nx D 1864 I z x4 u5 u6 := by
  refine cmp_ok (y := 162) (y' := 289) (w := 319) (P1 := 1887) (P2 := 1911) (c1 := (e_n 2)) (f := Int32.toInt64) (as := [.int (z.2.2.2.2 (x4 + (e_n 1)).toNatClampNeg), .int (z.2.2.2.2 (x4 + (e_n 2)).toNatClampNeg), .int (z.2.2.2.2 (x4 + (e_n 3)).toNatClampNeg)]) (X162 H) (by decide) (fun r I1 z1 h hok => W319 h hok) (C325_1864 (d := D) g1 g2 g3) (fun v I1 z1 hz => ?_) (fun v b I2 z2 h1 h2 => ?_)
  · have := C325_1887 (d := D) (I := I1) (z := z1) (x4 := x4) (y0 := v) (u5 := u5) (u6 := u6) (by rw [hz]; exact g1) (by rw [hz]; exact g2) (by rw [hz]; exact g3)
    rw [hz] at this
    exact ⟨_, this⟩
  · rw [C325_1911, if_pos h1]
    by_cases hv : v = 0
    · rw [if_pos hv, h2 hv, lg_same, if_pos rfl]
    · rw [if_neg hv]
theorem L1944 {D : Nat} {I : Nat → Nat → Int32} {z : e_Z} {B : e_B} {x4 : Int32} {u5 u6 : Value} (H : Rel I z B) (g1 : InR (x4 + (e_n 1)) z.2.2.2.1) (g2 : InR (x4 + (e_n 2)) z.2.2.2.1) (g3 : InR (x4 + (e_n 3)) z.2.2.2.1) (g4 : InR (x4 + (e_n 4)) z.2.2.2.1) (g5 : InR (x4 + (e_n 5)) z.2.2.2.1) : Nx D 1944 I z x4 u5 u6 := by
  refine cmp_ok (y := 152) (y' := 290) (w := 320) (P1 := 1961) (P2 := 1979) (c1 := (e_n 2)) (f := Int32.toInt64) (as := [.int (z.2.2.2.2 (x4 + (e_n 1)).toNatClampNeg), .int (z.2.2.2.2 (x4 + (e_n 2)).toNatClampNeg)]) (face_0 (fun c1 => F152 H)) (by decide) (fun r I1 z1 h hok => W320 h hok) (C325_1944 (d := D) g1 g2) (fun v I1 z1 hz => ?_) (fun v b I2 z2 h1 h2 => ?_)
  · have := C325_1961 (d := D) (I := I1) (z := z1) (x4 := x4) (y0 := v) (u5 := u5) (u6 := u6) (by rw [hz]; exact g1) (by rw [hz]; exact g2)
    rw [hz] at this
    exact ⟨_, this⟩
  · rw [C325_1979, if_pos h1]
    by_cases hv : v = 0
    · rw [if_pos hv, h2 hv, lg_same, if_pos rfl]
    · rw [if_neg hv]
theorem L2012 {D : Nat} {I : Nat → Nat → Int32} {z : e_Z} {B : e_B} {x4 : Int32} {u5 u6 : Value} (H : Rel I z B) (g1 : InR (x4 + (e_n 1)) z.2.2.2.1) (g2 : InR (x4 + (e_n 2)) z.2.2.2.1) (g3 : InR (x4 + (e_n 3)) z.2.2.2.1) (g4 : InR (x4 + (e_n 4)) z.2.2.2.1) (g5 : InR (x4 + (e_n 5)) z.2.2.2.1) : Nx D 2012 I z x4 u5 u6 := by
  refine cmp_ok (y := 153) (y' := 291) (w := 321) (P1 := 2023) (P2 := 2035) (c1 := (e_n 2)) (f := Int32.toInt64) (as := [.int (z.2.2.2.2 (x4 + (e_n 1)).toNatClampNeg)]) (face_0 (fun c1 => F153 H)) (by decide) (fun r I1 z1 h hok => W321 h hok) (C325_2012 (d := D) g1) (fun v I1 z1 hz => ?_) (fun v b I2 z2 h1 h2 => ?_)
  · have := C325_2023 (d := D) (I := I1) (z := z1) (x4 := x4) (y0 := v) (u5 := u5) (u6 := u6) (by rw [hz]; exact g1)
    rw [hz] at this
    exact ⟨_, this⟩
  · rw [C325_2035, if_pos h1]
    by_cases hv : v = 0
    · rw [if_pos hv, h2 hv, lg_same, if_pos rfl]
    · rw [if_neg hv]
theorem L2068 {D : Nat} {I : Nat → Nat → Int32} {z : e_Z} {B : e_B} {x4 : Int32} {u5 u6 : Value} (H : Rel I z B) (g1 : InR (x4 + (e_n 1)) z.2.2.2.1) (g2 : InR (x4 + (e_n 2)) z.2.2.2.1) (g3 : InR (x4 + (e_n 3)) z.2.2.2.1) (g4 : InR (x4 + (e_n 4)) z.2.2.2.1) (g5 : InR (x4 + (e_n 5)) z.2.2.2.1) : Nx D 2068 I z x4 u5 u6 := by
  refine dir_ok (y := 145) (y' := 266) (P1 := 2072) (P2 := 2076) (c1 := e_n 2) (as := []) (X145 H) (C325_2068 (d := D) ) (fun v I1 z1 hz => ?_) (fun v I2 z2 => ?_)
  · exact ⟨_, C325_2072 (d := D)⟩
  · rw [C325_2076, if_pos rfl]
theorem L2081 {D : Nat} {I : Nat → Nat → Int32} {z : e_Z} {B : e_B} {x4 : Int32} {u5 u6 : Value} (H : Rel I z B) (g1 : InR (x4 + (e_n 1)) z.2.2.2.1) (g2 : InR (x4 + (e_n 2)) z.2.2.2.1) (g3 : InR (x4 + (e_n 3)) z.2.2.2.1) (g4 : InR (x4 + (e_n 4)) z.2.2.2.1) (g5 : InR (x4 + (e_n 5)) z.2.2.2.1) : Nx D 2081 I z x4 u5 u6 := by
  refine cmp_ok (y := 146) (y' := 264) (w := 322) (P1 := 2092) (P2 := 2104) (c1 := (e_n 2)) (f := Int32.toInt64) (as := [.int (z.2.2.2.2 (x4 + (e_n 1)).toNatClampNeg)]) (face_0 (fun c1 => F146 H)) (by decide) (fun r I1 z1 h hok => W322 h hok) (C325_2081 (d := D) g1) (fun v I1 z1 hz => ?_) (fun v b I2 z2 h1 h2 => ?_)
  · have := C325_2092 (d := D) (I := I1) (z := z1) (x4 := x4) (y0 := v) (u5 := u5) (u6 := u6) (by rw [hz]; exact g1)
    rw [hz] at this
    exact ⟨_, this⟩
  · rw [C325_2104, if_pos h1]
    by_cases hv : v = 0
    · rw [if_pos hv, h2 hv, lg_same, if_pos rfl]
    · rw [if_neg hv]
theorem L2137 {D : Nat} {I : Nat → Nat → Int32} {z : e_Z} {B : e_B} {x4 : Int32} {u5 u6 : Value} (H : Rel I z B) (g1 : InR (x4 + (e_n 1)) z.2.2.2.1) (g2 : InR (x4 + (e_n 2)) z.2.2.2.1) (g3 : InR (x4 + (e_n 3)) z.2.2.2.1) (g4 : InR (x4 + (e_n 4)) z.2.2.2.1) (g5 : InR (x4 + (e_n 5)) z.2.2.2.1) : Nx D 2137 I z x4 u5 u6 := by
  refine dir_ok (y := 147) (y' := 265) (P1 := 2141) (P2 := 2145) (c1 := e_n 2) (as := []) (X147 H) (C325_2137 (d := D) ) (fun v I1 z1 hz => ?_) (fun v I2 z2 => ?_)
  · exact ⟨_, C325_2141 (d := D)⟩
  · rw [C325_2145, if_pos rfl]
theorem L2150 {D : Nat} {I : Nat → Nat → Int32} {z : e_Z} {B : e_B} {x4 : Int32} {u5 u6 : Value} (H : Rel I z B) (g1 : InR (x4 + (e_n 1)) z.2.2.2.1) (g2 : InR (x4 + (e_n 2)) z.2.2.2.1) (g3 : InR (x4 + (e_n 3)) z.2.2.2.1) (g4 : InR (x4 + (e_n 4)) z.2.2.2.1) (g5 : InR (x4 + (e_n 5)) z.2.2.2.1) : Nx D 2150 I z x4 u5 u6 := by
  refine cmp_ok (y := 148) (y' := 267) (w := 323) (P1 := 2167) (P2 := 2185) (c1 := (e_n 2)) (f := Int32.toInt64) (as := [.int (z.2.2.2.2 (x4 + (e_n 1)).toNatClampNeg), .int (z.2.2.2.2 (x4 + (e_n 2)).toNatClampNeg)]) (face_0 (fun c1 => F148 H)) (by decide) (fun r I1 z1 h hok => W323 h hok) (C325_2150 (d := D) g1 g2) (fun v I1 z1 hz => ?_) (fun v b I2 z2 h1 h2 => ?_)
  · have := C325_2167 (d := D) (I := I1) (z := z1) (x4 := x4) (y0 := v) (u5 := u5) (u6 := u6) (by rw [hz]; exact g1) (by rw [hz]; exact g2)
    rw [hz] at this
    exact ⟨_, this⟩
  · rw [C325_2185, if_pos h1]
    by_cases hv : v = 0
    · rw [if_pos hv, h2 hv, lg_same, if_pos rfl]
    · rw [if_neg hv]
theorem L2231 {D : Nat} {I : Nat → Nat → Int32} {z : e_Z} {B : e_B} {x4 : Int32} {u5 u6 : Value} (H : Rel I z B) (g1 : InR (x4 + (e_n 1)) z.2.2.2.1) (g2 : InR (x4 + (e_n 2)) z.2.2.2.1) (g3 : InR (x4 + (e_n 3)) z.2.2.2.1) (g4 : InR (x4 + (e_n 4)) z.2.2.2.1) (g5 : InR (x4 + (e_n 5)) z.2.2.2.1) : Nx D 2231 I z x4 u5 u6 := by
  refine cmp_ok (y := 163) (y' := 293) (w := 324) (P1 := 2248) (P2 := 2266) (c1 := (e_n 2)) (f := Int32.toInt64) (as := [.int (z.2.2.2.2 (x4 + (e_n 1)).toNatClampNeg), .int (z.2.2.2.2 (x4 + (e_n 2)).toNatClampNeg)]) (face_0 (fun c1 => F163 H)) (by decide) (fun r I1 z1 h hok => W324 h hok) (C325_2231 (d := D) g1 g2) (fun v I1 z1 hz => ?_) (fun v b I2 z2 h1 h2 => ?_)
  · have := C325_2248 (d := D) (I := I1) (z := z1) (x4 := x4) (y0 := v) (u5 := u5) (u6 := u6) (by rw [hz]; exact g1) (by rw [hz]; exact g2)
    rw [hz] at this
    exact ⟨_, this⟩
  · rw [C325_2266, if_pos h1]
    by_cases hv : v = 0
    · rw [if_pos hv, h2 hv, lg_same, if_pos rfl]
    · rw [if_neg hv]
theorem L2310 {D : Nat} {I : Nat → Nat → Int32} {z : e_Z} {B : e_B} {x4 : Int32} {u5 u6 : Value} (H : Rel I z B) (g1 : InR (x4 + (e_n 1)) z.2.2.2.1) (g2 : InR (x4 + (e_n 2)) z.2.2.2.1) (g3 : InR (x4 + (e_n 3)) z.2.2.2.1) (g4 : InR (x4 + (e_n 4)) z.2.2.2.1) (g5 : InR (x4 + (e_n 5)) z.2.2.2.1) : Nx D 2310 I z x4 u5 u6 := by
  refine dir_ok (y := 134) (y' := 295) (P1 := 2314) (P2 := 2318) (c1 := e_n 2) (as := []) (X134 H) (C325_2310 (d := D) ) (fun v I1 z1 hz => ?_) (fun v I2 z2 => ?_)
  · exact ⟨_, C325_2314 (d := D)⟩
  · rw [C325_2318, if_pos rfl]
end S99w
