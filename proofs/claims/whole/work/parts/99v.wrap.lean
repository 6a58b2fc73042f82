/-! the law's own methods: a call of the class, its value kept, its throw told -/
section S99v
def wk (c1 : Int32) (r : Int32 ⊕ Nat) : Int32 := match r with
  | .inl _ => e_n 0
  | .inr e => if e = 0 then e_n 1 else c1
def zo (f : Int32 → Int64) (r : Int32 ⊕ Nat) (z : e_Z) : e_Z := match r with
  | .inl v => (e_u z.1 538 (e_n 0).toNatClampNeg (f v), z.2)
  | .inr _ => zx z
def bo (v : Int32) : Int64 := if v = 0 then Int64.ofNat 0 else Int64.ofNat 1
theorem zo_p {f : Int32 → Int64} {r : Int32 ⊕ Nat} {z : e_Z} : (zo f r z).2.1 = z.2.1 ∧ (zo f r z).2.2.2 = z.2.2.2 ∧ (zo f r z).2.2.1.1 ≤ z.2.2.1.1 + 1 ∧ (zo f r z).2.2.1.2 ≤ z.2.2.1.2 + 6 := by
  cases r with
  | inl v => exact ⟨rfl, rfl, Nat.le_succ _, Nat.le_add_right _ _⟩
  | inr e => exact ⟨rfl, rfl, Nat.le_refl _, Nat.le_refl _⟩
theorem in01 : InR (e_n 0) 1 := InR_n (a := 0) (by decide) (by decide) (by decide)
theorem W296 {D : Nat} {I I1 : Nat → Nat → Int32} {z z1 : e_Z} {r : Int32 ⊕ Nat} {x1 : Int32} (h : e_E (D + 14) 118 [.ref 1, .int x1] (mk I z) = OutC r I1 z1) (hok : ∀ e, r = .inr e → (fun e => e = 1) e) : e_E (D + 15) 296 [.ref 1, .int x1, .ref 538] (mk I z) = some (.inl (some (.int (wk (e_n 1) r))), mk I1 (zo Int32.toInt64 r z1)) := by
  refine e_E_ret (d := D + 14) ?_
  show e_L (D + 14) 296 0 [.ref 1, .int x1, .ref 538, .null] [] (mk I z) = _
  rw [C296_0 (d := D + 0), h]
  cases r with
  | inl v =>
    show e_L (D + 14) 296 7 [.ref 1, .int x1, .ref 538, .null] [.int v, .int (e_n 0), .ref 538] (mk I1 z1) = _
    rw [C296_7 (d := D + 0) in01]; rfl
  | inr e =>
    have he := hok e rfl
    subst he
    show e_L (D + 14) 296 12 [.ref 1, .int x1, .ref 538, .null] [.null] (mk I1 (zx z1)) = _
    rw [C296_12 (d := D + 0)]; rfl
theorem W297 {D : Nat} {I I1 : Nat → Nat → Int32} {z z1 : e_Z} {r : Int32 ⊕ Nat} {x1 : Int32} {c1 : Int32} (h : e_E (D + 14) 121 [.ref 1, .int x1] (mk I z) = OutC r I1 z1) (hok : ∀ e, r = .inr e → (fun e => e = 0) e) : e_E (D + 15) 297 [.ref 1, .int x1, .ref 538] (mk I z) = some (.inl (some (.int (wk c1 r))), mk I1 (zo Int32.toInt64 r z1)) := by
  refine e_E_ret (d := D + 14) ?_
  show e_L (D + 14) 297 0 [.ref 1, .int x1, .ref 538, .null] [] (mk I z) = _
  rw [C297_0 (d := D + 9), h]
  cases r with
  | inl v =>
    show e_L (D + 14) 297 7 [.ref 1, .int x1, .ref 538, .null] [.int v, .int (e_n 0), .ref 538] (mk I1 z1) = _
    rw [C297_7 (d := D + 9) in01]; rfl
  | inr e =>
    have he := hok e rfl
    subst he
    show e_L (D + 14) 297 12 [.ref 1, .int x1, .ref 538, .null] [.null] (mk I1 (zx z1)) = _
    rw [C297_12 (d := D + 9)]; rfl
theorem W298 {D : Nat} {I I1 : Nat → Nat → Int32} {z z1 : e_Z} {r : Int32 ⊕ Nat} {x1 x2 : Int32} {c1 : Int32} (h : e_E (D + 14) 122 [.ref 1, .int x1, .int x2] (mk I z) = OutC r I1 z1) (hok : ∀ e, r = .inr e → (fun e => e = 0) e) : e_E (D + 15) 298 [.ref 1, .int x1, .int x2, .ref 538] (mk I z) = some (.inl (some (.int (wk c1 r))), mk I1 (zo Int32.toInt64 r z1)) := by
  refine e_E_ret (d := D + 14) ?_
  show e_L (D + 14) 298 0 [.ref 1, .int x1, .int x2, .ref 538, .null] [] (mk I z) = _
  rw [C298_0 (d := D + 11), h]
  cases r with
  | inl v =>
    show e_L (D + 14) 298 8 [.ref 1, .int x1, .int x2, .ref 538, .null] [.int v, .int (e_n 0), .ref 538] (mk I1 z1) = _
    rw [C298_8 (d := D + 11) in01]; rfl
  | inr e =>
    have he := hok e rfl
    subst he
    show e_L (D + 14) 298 13 [.ref 1, .int x1, .int x2, .ref 538, .null] [.null] (mk I1 (zx z1)) = _
    rw [C298_13 (d := D + 11)]; rfl
theorem W299 {D : Nat} {I I1 : Nat → Nat → Int32} {z z1 : e_Z} {r : Int32 ⊕ Nat} {x1 x2 : Int32} {c1 : Int32} (h : e_E (D + 14) 123 [.ref 1, .int x1, .int x2] (mk I z) = OutC r I1 z1) (hok : ∀ e, r = .inr e → (fun e => e = 0) e) : e_E (D + 15) 299 [.ref 1, .int x1, .int x2, .ref 538] (mk I z) = some (.inl (some (.int (wk c1 r))), mk I1 (zo Int32.toInt64 r z1)) := by
  refine e_E_ret (d := D + 14) ?_
  show e_L (D + 14) 299 0 [.ref 1, .int x1, .int x2, .ref 538, .null] [] (mk I z) = _
  rw [C299_0 (d := D + 10), h]
  cases r with
  | inl v =>
    show e_L (D + 14) 299 8 [.ref 1, .int x1, .int x2, .ref 538, .null] [.int v, .int (e_n 0), .ref 538] (mk I1 z1) = _
    rw [C299_8 (d := D + 10) in01]; rfl
  | inr e =>
    have he := hok e rfl
    subst he
    show e_L (D + 14) 299 13 [.ref 1, .int x1, .int x2, .ref 538, .null] [.null] (mk I1 (zx z1)) = _
    rw [C299_13 (d := D + 10)]; rfl
theorem W300 {D : Nat} {I I1 : Nat → Nat → Int32} {z z1 : e_Z} {r : Int32 ⊕ Nat} {x1 x2 : Int32} {c1 : Int32} (h : e_E (D + 14) 124 [.ref 1, .int x1, .int x2] (mk I z) = OutC r I1 z1) (hok : ∀ e, r = .inr e → (fun e => e = 0) e) : e_E (D + 15) 300 [.ref 1, .int x1, .int x2, .ref 538] (mk I z) = some (.inl (some (.int (wk c1 r))), mk I1 (zo Int32.toInt64 r z1)) := by
  refine e_E_ret (d := D + 14) ?_
  show e_L (D + 14) 300 0 [.ref 1, .int x1, .int x2, .ref 538, .null] [] (mk I z) = _
  rw [C300_0 (d := D + 11), h]
  cases r with
  | inl v =>
    show e_L (D + 14) 300 8 [.ref 1, .int x1, .int x2, .ref 538, .null] [.int v, .int (e_n 0), .ref 538] (mk I1 z1) = _
    rw [C300_8 (d := D + 11) in01]; rfl
  | inr e =>
    have he := hok e rfl
    subst he
    show e_L (D + 14) 300 13 [.ref 1, .int x1, .int x2, .ref 538, .null] [.null] (mk I1 (zx z1)) = _
    rw [C300_13 (d := D + 11)]; rfl
theorem W301 {D : Nat} {I I1 : Nat → Nat → Int32} {z z1 : e_Z} {r : Int32 ⊕ Nat} {x1 x2 : Int32} {c1 : Int32} (h : e_E (D + 14) 125 [.ref 1, .int x1, .int x2] (mk I z) = OutC r I1 z1) (hok : ∀ e, r = .inr e → (fun e => e = 0) e) : e_E (D + 15) 301 [.ref 1, .int x1, .int x2, .ref 538] (mk I z) = some (.inl (some (.int (wk c1 r))), mk I1 (zo Int32.toInt64 r z1)) := by
  refine e_E_ret (d := D + 14) ?_
  show e_L (D + 14) 301 0 [.ref 1, .int x1, .int x2, .ref 538, .null] [] (mk I z) = _
  rw [C301_0 (d := D + 10), h]
  cases r with
  | inl v =>
    show e_L (D + 14) 301 8 [.ref 1, .int x1, .int x2, .ref 538, .null] [.int v, .int (e_n 0), .ref 538] (mk I1 z1) = _
    rw [C301_8 (d := D + 10) in01]; rfl
  | inr e =>
    have he := hok e rfl
    subst he
    show e_L (D + 14) 301 13 [.ref 1, .int x1, .int x2, .ref 538, .null] [.null] (mk I1 (zx z1)) = _
    rw [C301_13 (d := D + 10)]; rfl
theorem W302 {D : Nat} {I I1 : Nat → Nat → Int32} {z z1 : e_Z} {r : Int32 ⊕ Nat} {x1 x2 : Int32} {c1 : Int32} (h : e_E (D + 14) 128 [.ref 1, .int x1, .int x2] (mk I z) = OutC r I1 z1) (hok : ∀ e, r = .inr e → (fun e => e = 0) e) : e_E (D + 15) 302 [.ref 1, .int x1, .int x2, .ref 538] (mk I z) = some (.inl (some (.int (wk c1 r))), mk I1 (zo Int32.toInt64 r z1)) := by
  refine e_E_ret (d := D + 14) ?_
  show e_L (D + 14) 302 0 [.ref 1, .int x1, .int x2, .ref 538, .null] [] (mk I z) = _
  rw [C302_0 (d := D + 10), h]
  cases r with
  | inl v =>
    show e_L (D + 14) 302 8 [.ref 1, .int x1, .int x2, .ref 538, .null] [.int v, .int (e_n 0), .ref 538] (mk I1 z1) = _
    rw [C302_8 (d := D + 10) in01]; rfl
  | inr e =>
    have he := hok e rfl
    subst he
    show e_L (D + 14) 302 13 [.ref 1, .int x1, .int x2, .ref 538, .null] [.null] (mk I1 (zx z1)) = _
    rw [C302_13 (d := D + 10)]; rfl
theorem W303 {D : Nat} {I I1 : Nat → Nat → Int32} {z z1 : e_Z} {r : Int32 ⊕ Nat} {x1 : Int32} {c1 : Int32} (h : e_E (D + 14) 129 [.ref 1, .int x1] (mk I z) = OutC r I1 z1) (hok : ∀ e, r = .inr e → (fun e => e = 0) e) : e_E (D + 15) 303 [.ref 1, .int x1, .ref 538] (mk I z) = some (.inl (some (.int (wk c1 r))), mk I1 (zo bo r z1)) := by
  refine e_E_ret (d := D + 14) ?_
  show e_L (D + 14) 303 0 [.ref 1, .int x1, .ref 538, .null] [] (mk I z) = _
  rw [C303_0 (d := D + 10), h]
  cases r with
  | inl v =>
    show e_L (D + 14) 303 7 [.ref 1, .int x1, .ref 538, .null] [.int v, .int (e_n 0), .ref 538] (mk I1 z1) = _
    rw [C303_7 (d := D + 10) (fun _ => in01) (fun _ => in01)]
    by_cases hv : v = 0
    · rw [if_pos hv]; show _ = some (Sum.inl (some (Value.int (e_n 0))), mk I1 (e_u z1.1 538 (e_n 0).toNatClampNeg (bo v), z1.2)); unfold bo; rw [if_pos hv]
    · rw [if_neg hv]; show _ = some (Sum.inl (some (Value.int (e_n 0))), mk I1 (e_u z1.1 538 (e_n 0).toNatClampNeg (bo v), z1.2)); unfold bo; rw [if_neg hv]
  | inr e =>
    have he := hok e rfl
    subst he
    show e_L (D + 14) 303 19 [.ref 1, .int x1, .ref 538, .null] [.null] (mk I1 (zx z1)) = _
    rw [C303_19 (d := D + 10)]; rfl
theorem W304 {D : Nat} {I I1 : Nat → Nat → Int32} {z z1 : e_Z} {r : Int32 ⊕ Nat} {x1 : Int32} {c1 : Int32} (h : e_E (D + 14) 130 [.ref 1, .int x1] (mk I z) = OutC r I1 z1) (hok : ∀ e, r = .inr e → (fun e => e = 0) e) : e_E (D + 15) 304 [.ref 1, .int x1, .ref 538] (mk I z) = some (.inl (some (.int (wk c1 r))), mk I1 (zo Int32.toInt64 r z1)) := by
  refine e_E_ret (d := D + 14) ?_
  show e_L (D + 14) 304 0 [.ref 1, .int x1, .ref 538, .null] [] (mk I z) = _
  rw [C304_0 (d := D + 10), h]
  cases r with
  | inl v =>
    show e_L (D + 14) 304 7 [.ref 1, .int x1, .ref 538, .null] [.int v, .int (e_n 0), .ref 538] (mk I1 z1) = _
    rw [C304_7 (d := D + 10) in01]; rfl
  | inr e =>
    have he := hok e rfl
    subst he
    show e_L (D + 14) 304 12 [.ref 1, .int x1, .ref 538, .null] [.null] (mk I1 (zx z1)) = _
    rw [C304_12 (d := D + 10)]; rfl
theorem W305 {D : Nat} {I I1 : Nat → Nat → Int32} {z z1 : e_Z} {r : Int32 ⊕ Nat} {x1 x2 : Int32} {c1 : Int32} (h : e_E (D + 14) 137 [.ref 1, .int x1, .int x2] (mk I z) = OutC r I1 z1) (hok : ∀ e, r = .inr e → (fun e => e = 0) e) : e_E (D + 15) 305 [.ref 1, .int x1, .int x2, .ref 538] (mk I z) = some (.inl (some (.int (wk c1 r))), mk I1 (zo Int32.toInt64 r z1)) := by
  refine e_E_ret (d := D + 14) ?_
  show e_L (D + 14) 305 0 [.ref 1, .int x1, .int x2, .ref 538, .null] [] (mk I z) = _
  rw [C305_0 (d := D + 6), h]
  cases r with
  | inl v =>
    show e_L (D + 14) 305 8 [.ref 1, .int x1, .int x2, .ref 538, .null] [.int v, .int (e_n 0), .ref 538] (mk I1 z1) = _
    rw [C305_8 (d := D + 6) in01]; rfl
  | inr e =>
    have he := hok e rfl
    subst he
    show e_L (D + 14) 305 13 [.ref 1, .int x1, .int x2, .ref 538, .null] [.null] (mk I1 (zx z1)) = _
    rw [C305_13 (d := D + 6)]; rfl
theorem W306 {D : Nat} {I I1 : Nat → Nat → Int32} {z z1 : e_Z} {r : Int32 ⊕ Nat} {x1 : Int32} {c1 : Int32} (h : e_E (D + 14) 138 [.ref 1, .int x1] (mk I z) = OutC r I1 z1) (hok : ∀ e, r = .inr e → (fun e => e = 0) e) : e_E (D + 15) 306 [.ref 1, .int x1, .ref 538] (mk I z) = some (.inl (some (.int (wk c1 r))), mk I1 (zo Int32.toInt64 r z1)) := by
  refine e_E_ret (d := D + 14) ?_
  show e_L (D + 14) 306 0 [.ref 1, .int x1, .ref 538, .null] [] (mk I z) = _
  rw [C306_0 (d := D + 6), h]
  cases r with
  | inl v =>
    show e_L (D + 14) 306 7 [.ref 1, .int x1, .ref 538, .null] [.int v, .int (e_n 0), .ref 538] (mk I1 z1) = _
    rw [C306_7 (d := D + 6) in01]; rfl
  | inr e =>
    have he := hok e rfl
    subst he
    show e_L (D + 14) 306 12 [.ref 1, .int x1, .ref 538, .null] [.null] (mk I1 (zx z1)) = _
    rw [C306_12 (d := D + 6)]; rfl
theorem W307 {D : Nat} {I I1 : Nat → Nat → Int32} {z z1 : e_Z} {r : Int32 ⊕ Nat} {x1 : Int32} (h : e_E (D + 14) 139 [.ref 1, .int x1] (mk I z) = OutC r I1 z1) (hok : ∀ e, r = .inr e → (fun e => e = 1) e) : e_E (D + 15) 307 [.ref 1, .int x1, .ref 538] (mk I z) = some (.inl (some (.int (wk (e_n 1) r))), mk I1 (zo Int32.toInt64 r z1)) := by
  refine e_E_ret (d := D + 14) ?_
  show e_L (D + 14) 307 0 [.ref 1, .int x1, .ref 538, .null] [] (mk I z) = _
  rw [C307_0 (d := D + 6), h]
  cases r with
  | inl v =>
    show e_L (D + 14) 307 7 [.ref 1, .int x1, .ref 538, .null] [.int v, .int (e_n 0), .ref 538] (mk I1 z1) = _
    rw [C307_7 (d := D + 6) in01]; rfl
  | inr e =>
    have he := hok e rfl
    subst he
    show e_L (D + 14) 307 12 [.ref 1, .int x1, .ref 538, .null] [.null] (mk I1 (zx z1)) = _
    rw [C307_12 (d := D + 6)]; rfl
theorem W308 {D : Nat} {I I1 : Nat → Nat → Int32} {z z1 : e_Z} {r : Int32 ⊕ Nat} {x1 x2 : Int32} (h : e_E (D + 14) 140 [.ref 1, .int x1, .int x2] (mk I z) = OutC r I1 z1) (hok : ∀ e, r = .inr e → (fun e => e ≤ 1) e) : e_E (D + 15) 308 [.ref 1, .int x1, .int x2, .ref 538] (mk I z) = some (.inl (some (.int (wk (e_n 2) r))), mk I1 (zo Int32.toInt64 r z1)) := by
  refine e_E_ret (d := D + 14) ?_
  show e_L (D + 14) 308 0 [.ref 1, .int x1, .int x2, .ref 538, .null] [] (mk I z) = _
  rw [C308_0 (d := D + 7), h]
  cases r with
  | inl v =>
    show e_L (D + 14) 308 8 [.ref 1, .int x1, .int x2, .ref 538, .null] [.int v, .int (e_n 0), .ref 538] (mk I1 z1) = _
    rw [C308_8 (d := D + 7) in01]; rfl
  | inr e =>
    have he := hok e rfl
    match e, he with
    | 0, _ =>
      show e_L (D + 14) 308 13 [.ref 1, .int x1, .int x2, .ref 538, .null] [.null] (mk I1 (zx z1)) = _
      rw [C308_13 (d := D + 7)]; rfl
    | 1, _ =>
      show e_L (D + 14) 308 17 [.ref 1, .int x1, .int x2, .ref 538, .null] [.null] (mk I1 (zx z1)) = _
      rw [C308_17 (d := D + 7)]; rfl
    | _ + 2, h => omega
theorem W309 {D : Nat} {I I1 : Nat → Nat → Int32} {z z1 : e_Z} {r : Int32 ⊕ Nat} {x1 : Int32} {c1 : Int32} (h : e_E (D + 14) 141 [.ref 1, .int x1] (mk I z) = OutC r I1 z1) (hok : ∀ e, r = .inr e → (fun e => e = 0) e) : e_E (D + 15) 309 [.ref 1, .int x1, .ref 538] (mk I z) = some (.inl (some (.int (wk c1 r))), mk I1 (zo Int32.toInt64 r z1)) := by
  refine e_E_ret (d := D + 14) ?_
  show e_L (D + 14) 309 0 [.ref 1, .int x1, .ref 538, .null] [] (mk I z) = _
  rw [C309_0 (d := D + 6), h]
  cases r with
  | inl v =>
    show e_L (D + 14) 309 7 [.ref 1, .int x1, .ref 538, .null] [.int v, .int (e_n 0), .ref 538] (mk I1 z1) = _
    rw [C309_7 (d := D + 6) in01]; rfl
  | inr e =>
    have he := hok e rfl
    subst he
    show e_L (D + 14) 309 12 [.ref 1, .int x1, .ref 538, .null] [.null] (mk I1 (zx z1)) = _
    rw [C309_12 (d := D + 6)]; rfl
theorem W310 {D : Nat} {I I1 : Nat → Nat → Int32} {z z1 : e_Z} {r : Int32 ⊕ Nat} {x1 : Int32} {c1 : Int32} (h : e_E (D + 14) 149 [.ref 1, .int x1] (mk I z) = OutC r I1 z1) (hok : ∀ e, r = .inr e → (fun e => e = 0) e) : e_E (D + 15) 310 [.ref 1, .int x1, .ref 538] (mk I z) = some (.inl (some (.int (wk c1 r))), mk I1 (zo Int32.toInt64 r z1)) := by
  refine e_E_ret (d := D + 14) ?_
  show e_L (D + 14) 310 0 [.ref 1, .int x1, .ref 538, .null] [] (mk I z) = _
  rw [C310_0 (d := D + 6), h]
  cases r with
  | inl v =>
    show e_L (D + 14) 310 7 [.ref 1, .int x1, .ref 538, .null] [.int v, .int (e_n 0), .ref 538] (mk I1 z1) = _
    rw [C310_7 (d := D + 6) in01]; rfl
  | inr e =>
    have he := hok e rfl
    subst he
    show e_L (D + 14) 310 12 [.ref 1, .int x1, .ref 538, .null] [.null] (mk I1 (zx z1)) = _
    rw [C310_12 (d := D + 6)]; rfl
theorem W311 {D : Nat} {I I1 : Nat → Nat → Int32} {z z1 : e_Z} {r : Int32 ⊕ Nat} {x1 : Int32} {c1 : Int32} (h : e_E (D + 14) 150 [.ref 1, .int x1] (mk I z) = OutC r I1 z1) (hok : ∀ e, r = .inr e → (fun e => e = 0) e) : e_E (D + 15) 311 [.ref 1, .int x1, .ref 538] (mk I z) = some (.inl (some (.int (wk c1 r))), mk I1 (zo Int32.toInt64 r z1)) := by
  refine e_E_ret (d := D + 14) ?_
  show e_L (D + 14) 311 0 [.ref 1, .int x1, .ref 538, .null] [] (mk I z) = _
  rw [C311_0 (d := D + 6), h]
  cases r with
  | inl v =>
    show e_L (D + 14) 311 7 [.ref 1, .int x1, .ref 538, .null] [.int v, .int (e_n 0), .ref 538] (mk I1 z1) = _
    rw [C311_7 (d := D + 6) in01]; rfl
  | inr e =>
    have he := hok e rfl
    subst he
    show e_L (D + 14) 311 12 [.ref 1, .int x1, .ref 538, .null] [.null] (mk I1 (zx z1)) = _
    rw [C311_12 (d := D + 6)]; rfl
theorem W312 {D : Nat} {I I1 : Nat → Nat → Int32} {z z1 : e_Z} {r : Int32 ⊕ Nat} {x1 x2 : Int32} (h : e_E (D + 14) 151 [.ref 1, .int x1, .int x2] (mk I z) = OutC r I1 z1) (hok : ∀ e, r = .inr e → (fun e => e ≤ 1) e) : e_E (D + 15) 312 [.ref 1, .int x1, .int x2, .ref 538] (mk I z) = some (.inl (some (.int (wk (e_n 2) r))), mk I1 (zo Int32.toInt64 r z1)) := by
  refine e_E_ret (d := D + 14) ?_
  show e_L (D + 14) 312 0 [.ref 1, .int x1, .int x2, .ref 538, .null] [] (mk I z) = _
  rw [C312_0 (d := D + 6), h]
  cases r with
  | inl v =>
    show e_L (D + 14) 312 8 [.ref 1, .int x1, .int x2, .ref 538, .null] [.int v, .int (e_n 0), .ref 538] (mk I1 z1) = _
    rw [C312_8 (d := D + 6) in01]; rfl
  | inr e =>
    have he := hok e rfl
    match e, he with
    | 0, _ =>
      show e_L (D + 14) 312 13 [.ref 1, .int x1, .int x2, .ref 538, .null] [.null] (mk I1 (zx z1)) = _
      rw [C312_13 (d := D + 6)]; rfl
    | 1, _ =>
      show e_L (D + 14) 312 17 [.ref 1, .int x1, .int x2, .ref 538, .null] [.null] (mk I1 (zx z1)) = _
      rw [C312_17 (d := D + 6)]; rfl
    | _ + 2, h => omega
theorem W313 {D : Nat} {I I1 : Nat → Nat → Int32} {z z1 : e_Z} {r : Int32 ⊕ Nat} {x1 : Int32} (h : e_E (D + 14) 142 [.ref 1, .int x1] (mk I z) = OutC r I1 z1) (hok : ∀ e, r = .inr e → (fun e => e = 1) e) : e_E (D + 15) 313 [.ref 1, .int x1, .ref 538] (mk I z) = some (.inl (some (.int (wk (e_n 1) r))), mk I1 (zo Int32.toInt64 r z1)) := by
  refine e_E_ret (d := D + 14) ?_
  show e_L (D + 14) 313 0 [.ref 1, .int x1, .ref 538, .null] [] (mk I z) = _
  rw [C313_0 (d := D + 6), h]
  cases r with
  | inl v =>
    show e_L (D + 14) 313 7 [.ref 1, .int x1, .ref 538, .null] [.int v, .int (e_n 0), .ref 538] (mk I1 z1) = _
    rw [C313_7 (d := D + 6) in01]; rfl
  | inr e =>
    have he := hok e rfl
    subst he
    show e_L (D + 14) 313 12 [.ref 1, .int x1, .ref 538, .null] [.null] (mk I1 (zx z1)) = _
    rw [C313_12 (d := D + 6)]; rfl
theorem W314 {D : Nat} {I I1 : Nat → Nat → Int32} {z z1 : e_Z} {r : Int32 ⊕ Nat} {x1 x2 x3 : Int32} {c1 : Int32} (h : e_E (D + 14) 154 [.ref 1, .int x1, .int x2, .int x3] (mk I z) = OutC r I1 z1) (hok : ∀ e, r = .inr e → (fun e => e = 0) e) : e_E (D + 15) 314 [.ref 1, .int x1, .int x2, .int x3, .ref 538] (mk I z) = some (.inl (some (.int (wk c1 r))), mk I1 (zo Int32.toInt64 r z1)) := by
  refine e_E_ret (d := D + 14) ?_
  show e_L (D + 14) 314 0 [.ref 1, .int x1, .int x2, .int x3, .ref 538, .null] [] (mk I z) = _
  rw [C314_0 (d := D + 11), h]
  cases r with
  | inl v =>
    show e_L (D + 14) 314 10 [.ref 1, .int x1, .int x2, .int x3, .ref 538, .null] [.int v, .int (e_n 0), .ref 538] (mk I1 z1) = _
    rw [C314_10 (d := D + 11) in01]; rfl
  | inr e =>
    have he := hok e rfl
    subst he
    show e_L (D + 14) 314 15 [.ref 1, .int x1, .int x2, .int x3, .ref 538, .null] [.null] (mk I1 (zx z1)) = _
    rw [C314_15 (d := D + 11)]; rfl
theorem W315 {D : Nat} {I I1 : Nat → Nat → Int32} {z z1 : e_Z} {r : Int32 ⊕ Nat} {x1 : Int32} {c1 : Int32} (h : e_E (D + 14) 156 [.ref 1, .int x1] (mk I z) = OutC r I1 z1) (hok : ∀ e, r = .inr e → (fun e => e = 0) e) : e_E (D + 15) 315 [.ref 1, .int x1, .ref 538] (mk I z) = some (.inl (some (.int (wk c1 r))), mk I1 (zo Int32.toInt64 r z1)) := by
  refine e_E_ret (d := D + 14) ?_
  show e_L (D + 14) 315 0 [.ref 1, .int x1, .ref 538, .null] [] (mk I z) = _
  rw [C315_0 (d := D + 6), h]
  cases r with
  | inl v =>
    show e_L (D + 14) 315 7 [.ref 1, .int x1, .ref 538, .null] [.int v, .int (e_n 0), .ref 538] (mk I1 z1) = _
    rw [C315_7 (d := D + 6) in01]; rfl
  | inr e =>
    have he := hok e rfl
    subst he
    show e_L (D + 14) 315 12 [.ref 1, .int x1, .ref 538, .null] [.null] (mk I1 (zx z1)) = _
    rw [C315_12 (d := D + 6)]; rfl
theorem W316 {D : Nat} {I I1 : Nat → Nat → Int32} {z z1 : e_Z} {r : Int32 ⊕ Nat} {x1 : Int32} {c1 : Int32} (h : e_E (D + 14) 157 [.ref 1, .int x1] (mk I z) = OutC r I1 z1) (hok : ∀ e, r = .inr e → (fun e => e = 0) e) : e_E (D + 15) 316 [.ref 1, .int x1, .ref 538] (mk I z) = some (.inl (some (.int (wk c1 r))), mk I1 (zo Int32.toInt64 r z1)) := by
  refine e_E_ret (d := D + 14) ?_
  show e_L (D + 14) 316 0 [.ref 1, .int x1, .ref 538, .null] [] (mk I z) = _
  rw [C316_0 (d := D + 6), h]
  cases r with
  | inl v =>
    show e_L (D + 14) 316 7 [.ref 1, .int x1, .ref 538, .null] [.int v, .int (e_n 0), .ref 538] (mk I1 z1) = _
    rw [C316_7 (d := D + 6) in01]; rfl
  | inr e =>
    have he := hok e rfl
    subst he
    show e_L (D + 14) 316 12 [.ref 1, .int x1, .ref 538, .null] [.null] (mk I1 (zx z1)) = _
    rw [C316_12 (d := D + 6)]; rfl
theorem W317 {D : Nat} {I I1 : Nat → Nat → Int32} {z z1 : e_Z} {r : Int32 ⊕ Nat} {x1 : Int32} (h : e_E (D + 14) 158 [.ref 1, .int x1] (mk I z) = OutC r I1 z1) (hok : ∀ e, r = .inr e → (fun e => e = 1) e) : e_E (D + 15) 317 [.ref 1, .int x1, .ref 538] (mk I z) = some (.inl (some (.int (wk (e_n 1) r))), mk I1 (zo Int32.toInt64 r z1)) := by
  refine e_E_ret (d := D + 14) ?_
  show e_L (D + 14) 317 0 [.ref 1, .int x1, .ref 538, .null] [] (mk I z) = _
  rw [C317_0 (d := D + 10), h]
  cases r with
  | inl v =>
    show e_L (D + 14) 317 7 [.ref 1, .int x1, .ref 538, .null] [.int v, .int (e_n 0), .ref 538] (mk I1 z1) = _
    rw [C317_7 (d := D + 10) in01]; rfl
  | inr e =>
    have he := hok e rfl
    subst he
    show e_L (D + 14) 317 12 [.ref 1, .int x1, .ref 538, .null] [.null] (mk I1 (zx z1)) = _
    rw [C317_12 (d := D + 10)]; rfl
theorem W318 {D : Nat} {I I1 : Nat → Nat → Int32} {z z1 : e_Z} {r : Int32 ⊕ Nat} {x1 x2 x3 : Int32} (h : e_E (D + 14) 159 [.ref 1, .int x1, .int x2, .int x3] (mk I z) = OutC r I1 z1) (hok : ∀ e, r = .inr e → (fun e => e ≤ 1) e) : e_E (D + 15) 318 [.ref 1, .int x1, .int x2, .int x3, .ref 538] (mk I z) = some (.inl (some (.int (wk (e_n 2) r))), mk I1 (zo Int32.toInt64 r z1)) := by
  refine e_E_ret (d := D + 14) ?_
  show e_L (D + 14) 318 0 [.ref 1, .int x1, .int x2, .int x3, .ref 538, .null] [] (mk I z) = _
  rw [C318_0 (d := D + 10), h]
  cases r with
  | inl v =>
    show e_L (D + 14) 318 10 [.ref 1, .int x1, .int x2, .int x3, .ref 538, .null] [.int v, .int (e_n 0), .ref 538] (mk I1 z1) = _
    rw [C318_10 (d := D + 10) in01]; rfl
  | inr e =>
    have he := hok e rfl
    match e, he with
    | 0, _ =>
      show e_L (D + 14) 318 15 [.ref 1, .int x1, .int x2, .int x3, .ref 538, .null] [.null] (mk I1 (zx z1)) = _
      rw [C318_15 (d := D + 10)]; rfl
    | 1, _ =>
      show e_L (D + 14) 318 19 [.ref 1, .int x1, .int x2, .int x3, .ref 538, .null] [.null] (mk I1 (zx z1)) = _
      rw [C318_19 (d := D + 10)]; rfl
    | _ + 2, h => omega
theorem W319 {D : Nat} {I I1 : Nat → Nat → Int32} {z z1 : e_Z} {r : Int32 ⊕ Nat} {x1 x2 x3 : Int32} (h : e_E (D + 14) 162 [.ref 1, .int x1, .int x2, .int x3] (mk I z) = OutC r I1 z1) (hok : ∀ e, r = .inr e → (fun e => e ≤ 1) e) : e_E (D + 15) 319 [.ref 1, .int x1, .int x2, .int x3, .ref 538] (mk I z) = some (.inl (some (.int (wk (e_n 2) r))), mk I1 (zo Int32.toInt64 r z1)) := by
  refine e_E_ret (d := D + 14) ?_
  show e_L (D + 14) 319 0 [.ref 1, .int x1, .int x2, .int x3, .ref 538, .null] [] (mk I z) = _
  rw [C319_0 (d := D + 7), h]
  cases r with
  | inl v =>
    show e_L (D + 14) 319 10 [.ref 1, .int x1, .int x2, .int x3, .ref 538, .null] [.int v, .int (e_n 0), .ref 538] (mk I1 z1) = _
    rw [C319_10 (d := D + 7) in01]; rfl
  | inr e =>
    have he := hok e rfl
    match e, he with
    | 0, _ =>
      show e_L (D + 14) 319 15 [.ref 1, .int x1, .int x2, .int x3, .ref 538, .null] [.null] (mk I1 (zx z1)) = _
      rw [C319_15 (d := D + 7)]; rfl
    | 1, _ =>
      show e_L (D + 14) 319 19 [.ref 1, .int x1, .int x2, .int x3, .ref 538, .null] [.null] (mk I1 (zx z1)) = _
      rw [C319_19 (d := D + 7)]; rfl
    | _ + 2, h => omega
theorem W320 {D : Nat} {I I1 : Nat → Nat → Int32} {z z1 : e_Z} {r : Int32 ⊕ Nat} {x1 x2 : Int32} {c1 : Int32} (h : e_E (D + 14) 152 [.ref 1, .int x1, .int x2] (mk I z) = OutC r I1 z1) (hok : ∀ e, r = .inr e → (fun e => e = 0) e) : e_E (D + 15) 320 [.ref 1, .int x1, .int x2, .ref 538] (mk I z) = some (.inl (some (.int (wk c1 r))), mk I1 (zo Int32.toInt64 r z1)) := by
  refine e_E_ret (d := D + 14) ?_
  show e_L (D + 14) 320 0 [.ref 1, .int x1, .int x2, .ref 538, .null] [] (mk I z) = _
  rw [C320_0 (d := D + 10), h]
  cases r with
  | inl v =>
    show e_L (D + 14) 320 8 [.ref 1, .int x1, .int x2, .ref 538, .null] [.int v, .int (e_n 0), .ref 538] (mk I1 z1) = _
    rw [C320_8 (d := D + 10) in01]; rfl
  | inr e =>
    have he := hok e rfl
    subst he
    show e_L (D + 14) 320 13 [.ref 1, .int x1, .int x2, .ref 538, .null] [.null] (mk I1 (zx z1)) = _
    rw [C320_13 (d := D + 10)]; rfl
theorem W321 {D : Nat} {I I1 : Nat → Nat → Int32} {z z1 : e_Z} {r : Int32 ⊕ Nat} {x1 : Int32} {c1 : Int32} (h : e_E (D + 14) 153 [.ref 1, .int x1] (mk I z) = OutC r I1 z1) (hok : ∀ e, r = .inr e → (fun e => e = 0) e) : e_E (D + 15) 321 [.ref 1, .int x1, .ref 538] (mk I z) = some (.inl (some (.int (wk c1 r))), mk I1 (zo Int32.toInt64 r z1)) := by
  refine e_E_ret (d := D + 14) ?_
  show e_L (D + 14) 321 0 [.ref 1, .int x1, .ref 538, .null] [] (mk I z) = _
  rw [C321_0 (d := D + 9), h]
  cases r with
  | inl v =>
    show e_L (D + 14) 321 7 [.ref 1, .int x1, .ref 538, .null] [.int v, .int (e_n 0), .ref 538] (mk I1 z1) = _
    rw [C321_7 (d := D + 9) in01]; rfl
  | inr e =>
    have he := hok e rfl
    subst he
    show e_L (D + 14) 321 12 [.ref 1, .int x1, .ref 538, .null] [.null] (mk I1 (zx z1)) = _
    rw [C321_12 (d := D + 9)]; rfl
theorem W322 {D : Nat} {I I1 : Nat → Nat → Int32} {z z1 : e_Z} {r : Int32 ⊕ Nat} {x1 : Int32} {c1 : Int32} (h : e_E (D + 14) 146 [.ref 1, .int x1] (mk I z) = OutC r I1 z1) (hok : ∀ e, r = .inr e → (fun e => e = 0) e) : e_E (D + 15) 322 [.ref 1, .int x1, .ref 538] (mk I z) = some (.inl (some (.int (wk c1 r))), mk I1 (zo Int32.toInt64 r z1)) := by
  refine e_E_ret (d := D + 14) ?_
  show e_L (D + 14) 322 0 [.ref 1, .int x1, .ref 538, .null] [] (mk I z) = _
  rw [C322_0 (d := D + 6), h]
  cases r with
  | inl v =>
    show e_L (D + 14) 322 7 [.ref 1, .int x1, .ref 538, .null] [.int v, .int (e_n 0), .ref 538] (mk I1 z1) = _
    rw [C322_7 (d := D + 6) in01]; rfl
  | inr e =>
    have he := hok e rfl
    subst he
    show e_L (D + 14) 322 12 [.ref 1, .int x1, .ref 538, .null] [.null] (mk I1 (zx z1)) = _
    rw [C322_12 (d := D + 6)]; rfl
theorem W323 {D : Nat} {I I1 : Nat → Nat → Int32} {z z1 : e_Z} {r : Int32 ⊕ Nat} {x1 x2 : Int32} {c1 : Int32} (h : e_E (D + 14) 148 [.ref 1, .int x1, .int x2] (mk I z) = OutC r I1 z1) (hok : ∀ e, r = .inr e → (fun e => e = 0) e) : e_E (D + 15) 323 [.ref 1, .int x1, .int x2, .ref 538] (mk I z) = some (.inl (some (.int (wk c1 r))), mk I1 (zo Int32.toInt64 r z1)) := by
  refine e_E_ret (d := D + 14) ?_
  show e_L (D + 14) 323 0 [.ref 1, .int x1, .int x2, .ref 538, .null] [] (mk I z) = _
  rw [C323_0 (d := D + 6), h]
  cases r with
  | inl v =>
    show e_L (D + 14) 323 8 [.ref 1, .int x1, .int x2, .ref 538, .null] [.int v, .int (e_n 0), .ref 538] (mk I1 z1) = _
    rw [C323_8 (d := D + 6) in01]; rfl
  | inr e =>
    have he := hok e rfl
    subst he
    show e_L (D + 14) 323 13 [.ref 1, .int x1, .int x2, .ref 538, .null] [.null] (mk I1 (zx z1)) = _
    rw [C323_13 (d := D + 6)]; rfl
theorem W324 {D : Nat} {I I1 : Nat → Nat → Int32} {z z1 : e_Z} {r : Int32 ⊕ Nat} {x1 x2 : Int32} {c1 : Int32} (h : e_E (D + 14) 163 [.ref 1, .int x1, .int x2] (mk I z) = OutC r I1 z1) (hok : ∀ e, r = .inr e → (fun e => e = 0) e) : e_E (D + 15) 324 [.ref 1, .int x1, .int x2, .ref 538] (mk I z) = some (.inl (some (.int (wk c1 r))), mk I1 (zo Int32.toInt64 r z1)) := by
  refine e_E_ret (d := D + 14) ?_
  show e_L (D + 14) 324 0 [.ref 1, .int x1, .int x2, .ref 538, .null] [] (mk I z) = _
  rw [C324_0 (d := D + 10), h]
  cases r with
  | inl v =>
    show e_L (D + 14) 324 8 [.ref 1, .int x1, .int x2, .ref 538, .null] [.int v, .int (e_n 0), .ref 538] (mk I1 z1) = _
    rw [C324_8 (d := D + 10) in01]; rfl
  | inr e =>
    have he := hok e rfl
    subst he
    show e_L (D + 14) 324 13 [.ref 1, .int x1, .int x2, .ref 538, .null] [.null] (mk I1 (zx z1)) = _
    rw [C324_13 (d := D + 10)]; rfl
end S99v
