/-! the first state; the law's end, once board agrees -/
section S99zd
def fl0 : List ((Nat × Nat) × Int) := [((4, 2), 0), ((5, 0), 0), ((5, 1), 0), ((4, 6), 0), ((4, 10), 0), ((4, 11), 0), ((12, 1), 0), ((489, 1), 0), ((489, 2), 0), ((489, 3), 0), ((489, 4), 0), ((489, 5), 0), ((489, 6), 0), ((489, 7), -1), ((489, 61), -1), ((489, 69), -1), ((1, 1), 0), ((489, 19), 0), ((1, 2), -1), ((489, 21), -1), ((3, 0), 0), ((3, 1), 0), ((3, 2), 0), ((501, 0), 0), ((501, 1), 0), ((501, 2), 0), ((51, 0), 0), ((51, 1), 0), ((51, 2), 0), ((51, 3), 0), ((51, 4), 1), ((515, 0), 0), ((515, 1), 0), ((515, 2), 0), ((515, 3), 1), ((53, 0), -1), ((53, 1), -1), ((53, 2), -1), ((53, 3), -1), ((53, 4), -1), ((53, 5), -1), ((53, 6), -1), ((53, 7), -1), ((53, 8), -1), ((50, 2), 0), ((50, 3), 0), ((489, 56), 0), ((50, 4), 0), ((489, 76), 0), ((1, 9), 0), ((489, 81), 0), ((260, 2), 0)]
def chkI (c : e_C) : Bool := fl0.all (fun q => decide (cI c q.1.1 q.1.2 = e_n q.2))
theorem runI : chkI (getc (cgo none)) = true := by decide +kernel
def B0 : e_B := ((0, 0, 0, 0, 0, 0), (fun _ _ => 0), [])
theorem rel_0 {I : Nat → Nat → Int32} {z : e_Z} (hz : z.2.1 = p0) (h : ∀ q, q ∈ fl0 → I q.1.1 q.1.2 = e_n q.2) : Rel I z B0 := by
  have g : ∀ a k v, ((a, k), v) ∈ fl0 → I a k = e_n v := fun a k v hm => h ((a, k), v) hm
  have hb : bd z.2.1.1 = 4 := by rw [hz]; rfl
  have n0 : ∀ {k : Nat}, ¬ k < 0 := fun {k} => Nat.not_lt_zero k
  have wb : WB B0 := by
    refine ⟨Nat.zero_le _, Nat.zero_le _, Nat.zero_le _, Nat.zero_le _, Nat.zero_le _, Nat.zero_le _, fun a ha => absurd ha n0, fun a ha => absurd ha n0, fun a ha => absurd ha n0, fun a ha => absurd ha n0, fun a ha => absurd ha n0, Nat.zero_le _, Or.inl rfl, fun a ha => absurd ha n0, fun a ha => absurd ha n0, fun a _ ha => absurd ha n0, fun a _ ha => absurd ha n0⟩
  refine ⟨wb, ?_, ?_, g _ _ _ (by decide), g _ _ _ (by decide), ⟨0, by decide, g _ _ _ (by decide), g _ _ _ (by decide), fun k hk => absurd hk n0⟩, (g 1 2 (-1) (by decide)).trans (g 489 21 (-1) (by decide)).symm, ?_, ?_, ⟨(g 1 9 0 (by decide)).trans (g 489 81 0 (by decide)).symm, g _ _ _ (by decide)⟩, Or.inl (g _ _ _ (by decide))⟩
  · rw [hb]
    refine ⟨g _ _ _ (by decide), g _ _ _ (by decide), g _ _ _ (by decide), g _ _ _ (by decide), g _ _ _ (by decide), g _ _ _ (by decide), fun a ha => absurd ha n0, fun a ha => absurd ha n0, fun a ha => absurd ha n0, fun a ha => absurd ha n0, fun a ha => absurd ha n0, g 12 1 0 (by decide), fun a ha => absurd ha n0⟩
  · refine ⟨g _ _ _ (by decide), g _ _ _ (by decide), g _ _ _ (by decide), g _ _ _ (by decide), g _ _ _ (by decide), g _ _ _ (by decide), ?_, fun a ha => absurd ha n0, fun a ha => absurd ha n0, fun a ha => absurd ha n0, fun a ha => absurd ha n0, by decide, fun hn => absurd rfl hn⟩
    rw [if_pos (show bO B0 = [] from rfl)]; exact g 489 7 (-1) (by decide)
  · intro k hk
    match k, hk with
    | 0, _ => exact (g 3 0 0 (by decide)).trans (g 501 0 0 (by decide)).symm
    | 1, _ => exact (g 3 1 0 (by decide)).trans (g 501 1 0 (by decide)).symm
    | 2, _ => exact (g 3 2 0 (by decide)).trans (g 501 2 0 (by decide)).symm
    | _ + 3, h => omega
  · refine ⟨⟨(g 51 0 0 (by decide)).trans (g 515 0 0 (by decide)).symm, g 51 1 0 (by decide), (g 51 2 0 (by decide)).trans (g 515 1 0 (by decide)).symm, (g 51 3 0 (by decide)).trans (g 515 2 0 (by decide)).symm, (g 51 4 1 (by decide)).trans (g 515 3 1 (by decide)).symm, fun p hp => absurd hp n0, ?_, fun m hm => absurd hm n0⟩, ⟨⟨0, by decide, g 515 0 0 (by decide), fun p hp => absurd hp n0⟩, fun p hp => absurd hp n0, fun p hp => absurd hp n0, Or.inr (g 515 3 1 (by decide)), fun p hp => absurd hp n0, ?_, g 515 2 0 (by decide)⟩, ⟨0, 0, by decide, by decide, g 50 2 0 (by decide), g 50 3 0 (by decide), g 489 56 0 (by decide), fun k hk => absurd hk n0⟩, ⟨0, by decide, g 50 4 0 (by decide), g 489 76 0 (by decide), fun k hk => absurd hk n0⟩⟩
    · intro p _ hp
      match p, hp with
      | 0, _ => exact g 53 0 (-1) (by decide)
      | 1, _ => exact g 53 1 (-1) (by decide)
      | 2, _ => exact g 53 2 (-1) (by decide)
      | 3, _ => exact g 53 3 (-1) (by decide)
      | 4, _ => exact g 53 4 (-1) (by decide)
      | 5, _ => exact g 53 5 (-1) (by decide)
      | 6, _ => exact g 53 6 (-1) (by decide)
      | 7, _ => exact g 53 7 (-1) (by decide)
      | 8, _ => exact g 53 8 (-1) (by decide)
      | _ + 9, h => omega
    · intro i _
      rw [g 515 1 0 (by decide)]; exact bt_0 i
theorem law_end {L : Nat} (hL : L ≤ 3072) (xs : Nat → Int32) {j : Nat} (hb : BoardOK (5 + j)) : ∃ σf, e_E (20 + j + 1) 325 [.ref 1000000] (e_s0 L xs) = some (.inl (some (.int 1)), σf) ∧ e_c σf ≤ 601024 ∧ e_s σf ≤ 7293034 := by
  obtain ⟨σ, h1, h2⟩ := start_L L xs j
  have hm := mk_c h2
  have hI := runI
  generalize getc (cgo none) = c at hm hI
  have hR : Rel (fun a k => cI c a k) ((fun _ _ => 0), p0, (538, 22320), (L, xs)) B0 := rel_0 rfl (fun q hq => of_decide_eq_true (List.all_eq_true.mp hI q hq))
  obtain ⟨I', z', e1, c1, c2⟩ := law_loop (D := 5 + j) hb hL 512 0 (fun a k => cI c a k) ((fun _ _ => 0), p0, (538, 22320), (L, xs)) B0 .null .null (by omega) (by omega) hR rfl
  have c1' : z'.2.2.1.1 ≤ 538 + 512 := c1
  have c2' : z'.2.2.1.2 ≤ 22320 + 6 * 512 := c2
  refine ⟨mk I' z', e_E_ret (d := 20 + j) ?_, ?_, ?_⟩
  · rw [show 5 + j + 15 = 20 + j by omega] at e1
    rw [hm] at h1
    exact h1.trans e1
  · show z'.2.2.1.1 ≤ 601024
    omega
  · show z'.2.2.1.2 ≤ 7293034
    omega
end S99zd
