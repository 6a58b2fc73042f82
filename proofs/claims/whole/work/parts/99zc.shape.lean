/-! what the constructors leave: the room -/
section S99zc
def p0 : e_P := (false, true, false, false)
def rw1 {α : Type} : List ((Nat × Nat) × α) → Nat → List (Nat × α)
  | [], _ => []
  | (q, v) :: r, a => bif Nat.beq a q.1 then (q.2, v) :: rw1 r a else rw1 r a
def lk1 {α : Type} (d : α) : List (Nat × α) → Nat → α
  | [], _ => d
  | (j, v) :: r, k => bif Nat.beq k j then v else lk1 d r k
theorem lk_rw {α : Type} (d : α) (a k : Nat) : ∀ l : List ((Nat × Nat) × α), lk d l a k = lk1 d (rw1 l a) k
  | [] => rfl
  | (q, v) :: r => by
    show (bif (Nat.beq a q.1 && Nat.beq k q.2) then v else lk d r a k) = lk1 d (bif Nat.beq a q.1 then (q.2, v) :: rw1 r a else rw1 r a) k
    rw [lk_rw d a k r]
    cases Nat.beq a q.1 with
    | true => rfl
    | false => rfl
theorem lk_out {α : Type} (d : α) (a k n : Nat) (h : n ≤ k) : ∀ l : List ((Nat × Nat) × α), l.all (fun q => Nat.blt q.1.2 n) = true → lk d l a k = d
  | [], _ => rfl
  | (q, v) :: r, hl => by
    rw [List.all_cons, Bool.and_eq_true] at hl
    have h1 : q.2 < n := by
      have := hl.1
      rw [Nat.blt_eq] at this
      exact this
    show (bif (Nat.beq a q.1 && Nat.beq k q.2) then v else lk d r a k) = d
    have : Nat.beq k q.2 = false := by rw [← Bool.not_eq_true, Nat.beq_eq]; omega
    rw [this, Bool.and_false]
    exact lk_out d a k n h r hl.2
def chkS (c : e_C) : Bool := (List.range 539).all (fun a => Nat.beq (cS c a).1 (shp a).1 && Nat.beq (cS c a).2 (shp a).2)
def chkF (c : e_C) : Bool := c.2.2.2.1.all (fun q => Nat.blt q.1.2 87) && (List.range 539).all (fun a => (List.range 87).all (fun k => Nat.beq (lk1 0 (rw1 c.2.2.2.1 a) k) (fr p0 a k)))
theorem blt_g {a k : Nat} (h : k ≤ a) : Nat.blt a k = false := by rw [← Bool.not_eq_true, Nat.blt_eq]; omega
theorem beq_g {a k : Nat} (h : k < a) : Nat.beq a k = false := by rw [← Bool.not_eq_true, Nat.beq_eq]; omega
theorem shp_out {a : Nat} (h : 538 < a) : shp a = (0, 0) := by
  have hb : ∀ k, k ≤ 539 → Nat.blt a k = false := fun k hk => blt_g (by omega)
  unfold shp
  simp (disch := decide) only [hb, cond_false]
theorem fr_out {p : e_P} {a k : Nat} (h : 538 < a) : fr p a k = 0 := by
  have hb : ∀ k, k ≤ 539 → Nat.blt a k = false := fun k hk => blt_g (by omega)
  unfold fr
  simp (disch := decide) only [hb, cond_false]
theorem fr_big {p : e_P} {a k : Nat} (h : 87 ≤ k) : fr p a k = 0 := by
  have hb : ∀ j, j ≤ 86 → Nat.beq k j = false := fun j hj => beq_g (by omega)
  have hc : ∀ j, j ≤ 87 → Nat.blt k j = false := fun j hj => blt_g (by omega)
  unfold fr fr489 e_fm
  simp (disch := decide) only [hb, hc, cond_false, Bool.cond_self]
theorem runS : chkS (getc (cgo none)) = true := by decide +kernel
theorem runF : chkF (getc (cgo none)) = true := by decide +kernel
theorem shp_c {c : e_C} (h1 : c.1 = 538) (h : chkS c = true) : (fun a => cS c a) = shp := by
  funext a
  by_cases ha : a < 539
  · have := List.all_eq_true.mp h a (List.mem_range.mpr ha)
    rw [Bool.and_eq_true, Nat.beq_eq, Nat.beq_eq] at this
    exact Prod.ext this.1 this.2
  · rw [shp_out (by omega)]
    unfold cS
    rw [h1, show Nat.ble a 538 = false from by rw [← Bool.not_eq_true, Nat.ble_eq]; omega]
    rfl
theorem fr_c {c : e_C} (h1 : c.1 = 538) (h8 : ∀ a k, c.1 < a → cF c a k = 0) (h : chkF c = true) : (fun a k => cF c a k) = fr p0 := by
  unfold chkF at h
  rw [Bool.and_eq_true] at h
  funext a k
  by_cases ha : a < 539
  · by_cases hk : k < 87
    · have := List.all_eq_true.mp (List.all_eq_true.mp h.2 a (List.mem_range.mpr ha)) k (List.mem_range.mpr hk)
      rw [Nat.beq_eq] at this
      show lk 0 c.2.2.2.1 a k = _
      rw [lk_rw]; exact this
    · rw [fr_big (by omega)]
      exact lk_out 0 a k 87 (by omega) _ h.1
  · rw [fr_out (by omega), h8 a k (by omega)]
theorem mk_c {L : Nat} {xs : Nat → Int32} {σ : e_S} (R : Rs (L, xs) (getc (cgo none)) σ) : σ = mk (fun a k => cI (getc (cgo none)) a k) ((fun _ _ => 0), p0, (538, 22320), (L, xs)) := by
  have hn := cfin_n _ rfl
  have hS := runS
  have hF := runF
  generalize getc (cgo none) = c at R hn hS hF
  obtain ⟨h1, h2, h3, h4, h5, h6, h7, h8⟩ := R
  have e1 : σ.2.1 = shp := by rw [← shp_c hn.1 hS]; exact funext h2
  have e2 : σ.2.2.1 = fun a k => cI c a k := funext fun a => funext fun k => h3 a k
  have e3 : σ.2.2.2.1 = fun _ _ => 0 := funext fun a => funext fun k => h4 a k
  have e4 : σ.2.2.2.2.1 = fr p0 := by rw [← fr_c hn.1 (fun a k ha => (h8 a k ha).2) hF]; exact funext fun a => funext fun k => h5 a k
  obtain ⟨n, sh, I, J, F, cc, X⟩ := σ
  show _ = (538, shp, (fun a k => cI c a k), (fun _ _ => (0 : Int64)), fr p0, (538, 22320), (L, xs))
  have q1 : n = 538 := h1.trans hn.1
  have q2 : sh = shp := e1
  have q3 : I = fun a k => cI c a k := e2
  have q4 : J = fun _ _ => 0 := e3
  have q5 : F = fr p0 := e4
  have q6 : cc = (538, 22320) := h6.trans hn.2
  have q7 : X = (L, xs) := h7
  rw [q1, q2, q3, q4, q5, q6, q7]
end S99zc
