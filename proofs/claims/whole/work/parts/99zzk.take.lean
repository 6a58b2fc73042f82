/-! the reference takes the board -/
section S99zzk
theorem c216r {d : Nat} {x1 : Int32} {z : e_Z} : ∀ (f i : Nat) (K : Nat → Nat → Int32), i + f = 9 → ∃ K', e_L (d + 7) 216 350 [.ref 489, .int x1, .int (e_n (i : Nat))] [] (mk K z) = e_L (d + 7) 216 350 [.ref 489, .int x1, .int (e_n ((9 : Nat) : Nat))] [] (mk K' z) ∧ (∀ k, K' 511 k = if (4 + i ≤ k ∧ k < 13) ∨ (13 + i ≤ k ∧ k < 22) then e_n (-1) else K 511 k) ∧ ∀ r, r ≠ 511 → K' r = K r := by
  intro f
  induction f with
  | zero =>
    intro i K hi
    have hi' : i = 9 := by omega
    rw [hi']
    exact ⟨K, rfl, fun k => by rw [if_neg (by omega)], fun _ _ => rfl⟩
  | succ f ih =>
    intro i K hi
    have e4 : e_n 4 + e_n (i : Nat) = e_n ((4 + i : Nat) : Nat) := by rw [e_n_add]; congr 1
    have e13 : e_n 13 + e_n (i : Nat) = e_n ((13 + i : Nat) : Nat) := by rw [e_n_add]; congr 1
    obtain ⟨K', q1, q2, q3⟩ := ih (i + 1) (e_u (e_u K 511 (4 + i) (e_n (-1))) 511 (13 + i) (e_n (-1))) (by omega)
    refine ⟨K', ?_, fun k => ?_, fun r hr => by rw [q3 r hr, e_u_na hr, e_u_na hr]⟩
    · rw [C216_350 (fun _ => by rw [e4]; exact InR_n (by omega) (by omega) (by omega)) (fun _ => by rw [e13]; exact InR_n (by omega) (by omega) (by omega)), if_pos (by rw [show (e_n 9) = e_n ((9 : Nat) : Nat) from rfl, e_n_ltN (by omega) (by omega)]; omega), e4, e13, e_n_nat' (by omega), e_n_nat' (by omega), e_n_succ]
      exact q1
    · rw [q2 k]
      by_cases c1 : (4 + (i + 1) ≤ k ∧ k < 13) ∨ (13 + (i + 1) ≤ k ∧ k < 22)
      · rw [if_pos c1, if_pos (by omega)]
      · rw [if_neg c1, e_u_at, e_u_at]
        by_cases c2 : k = 13 + i
        · rw [if_pos c2, if_pos (by omega)]
        · rw [if_neg c2]
          by_cases c3 : k = 4 + i
          · rw [if_pos c3, if_pos (by omega)]
          · rw [if_neg c3, if_neg (by omega)]
/-- the first row of a board told -/
def M0 (J : Nat → Nat → Int32) (k : Nat) : Int32 := if k < 3 then e_n 0 else if k = 3 then e_n 1 else if k < 22 then e_n (-1) else J 511 k
theorem c216e {d q n : Nat} {x1 : Int32} {b : Nat → Int32} {J : Nat → Nat → Int32} {z : e_Z} (h : RG z J b n q) (k0 : tkK b n q = 0) : ∃ F, e_L (d + 7) 216 101 [.ref 489, .int x1, .null] [] (mk J z) = some (.inl (some (.int (e_n 0))), mk F z)
    ∧ (∀ j, j < 8 → F 490 j = J 502 j) ∧ (∀ j, j < 12 → F 491 j = J 503 j ∧ F 492 j = J 504 j ∧ F 493 j = J 505 j) ∧ (∀ j, j < 9 → F 494 j = J 506 j ∧ F 495 j = J 507 j) ∧ (∀ j, j < 12 → F 496 j = J 508 j ∧ F 497 j = J 509 j ∧ F 498 j = J 510 j) ∧ (∀ j, j < 1400 → F 499 j = J 512 j)
    ∧ (∀ j, j < 34 → F 515 j = M0 J j) ∧ (∀ k, 1 ≤ k → k ≤ 7 → F 489 k = J 489 (30 + k)) ∧ F 489 56 = e_n 0 ∧ F 489 76 = e_n 0 ∧ F 489 81 = e_n 0 ∧ (∀ k, (k = 0 ∨ 7 < k) → k ≠ 56 → k ≠ 76 → k ≠ 81 → F 489 k = J 489 k) ∧ ∀ r, r ≠ 489 → (r < 490 ∨ 499 < r) → r ≠ 511 → r ≠ 515 → F r = J r := by
  generalize hU : (e_u (e_u (e_u (e_u (e_u (e_u (e_u J 489 1 (J 489 31)) 489 2 (J 489 32)) 489 3 (J 489 33)) 489 4 (J 489 34)) 489 5 (J 489 35)) 489 6 (J 489 36)) 489 7 (J 489 37)) = U
  have ur : ∀ r, r ≠ 489 → U r = J r := fun r hr => by
    rw [← hU]
    simp only [e_u_na hr]
  have uk : ∀ k, (k = 0 ∨ 7 < k) → U 489 k = J 489 k := fun k hk => by
    rw [← hU, e_u_ne (by omega), e_u_ne (by omega), e_u_ne (by omega), e_u_ne (by omega), e_u_ne (by omega), e_u_ne (by omega), e_u_ne (by omega)]
  have u7 : ∀ k, 1 ≤ k → k ≤ 7 → U 489 k = J 489 (30 + k) := by
    intro k h1 h2
    rw [← hU]
    match k, h1, h2 with
    | 1, _, _ => simp (disch := decide) only [e_u_ne, e_u_same]
    | 2, _, _ => simp (disch := decide) only [e_u_ne, e_u_same]
    | 3, _, _ => simp (disch := decide) only [e_u_ne, e_u_same]
    | 4, _, _ => simp (disch := decide) only [e_u_ne, e_u_same]
    | 5, _, _ => simp (disch := decide) only [e_u_ne, e_u_same]
    | 6, _, _ => simp (disch := decide) only [e_u_ne, e_u_same]
    | 7, _, _ => simp (disch := decide) only [e_u_ne, e_u_same]
  obtain ⟨V0, a0, b0, c0⟩ := copyF (d := d + 6) (r := 502) (r2 := 490) (K := U) (z := z) rfl rfl (by decide +kernel) (by decide)
  have l0 : ln 502 = 8 := rfl
  rw [l0] at b0
  obtain ⟨V1, a1, b1, c1⟩ := copyF (d := d + 6) (r := 503) (r2 := 491) (K := V0) (z := z) rfl rfl (by decide +kernel) (by decide)
  have l1 : ln 503 = 12 := rfl
  rw [l1] at b1
  obtain ⟨V2, a2, b2, c2⟩ := copyF (d := d + 6) (r := 504) (r2 := 492) (K := V1) (z := z) rfl rfl (by decide +kernel) (by decide)
  have l2 : ln 504 = 12 := rfl
  rw [l2] at b2
  obtain ⟨V3, a3, b3, c3⟩ := copyF (d := d + 6) (r := 505) (r2 := 493) (K := V2) (z := z) rfl rfl (by decide +kernel) (by decide)
  have l3 : ln 505 = 12 := rfl
  rw [l3] at b3
  obtain ⟨V4, a4, b4, c4⟩ := copyF (d := d + 6) (r := 506) (r2 := 494) (K := V3) (z := z) rfl rfl (by decide +kernel) (by decide)
  have l4 : ln 506 = 9 := rfl
  rw [l4] at b4
  obtain ⟨V5, a5, b5, c5⟩ := copyF (d := d + 6) (r := 507) (r2 := 495) (K := V4) (z := z) rfl rfl (by decide +kernel) (by decide)
  have l5 : ln 507 = 9 := rfl
  rw [l5] at b5
  obtain ⟨V6, a6, b6, c6⟩ := copyF (d := d + 6) (r := 508) (r2 := 496) (K := V5) (z := z) rfl rfl (by decide +kernel) (by decide)
  have l6 : ln 508 = 12 := rfl
  rw [l6] at b6
  obtain ⟨V7, a7, b7, c7⟩ := copyF (d := d + 6) (r := 509) (r2 := 497) (K := V6) (z := z) rfl rfl (by decide +kernel) (by decide)
  have l7 : ln 509 = 12 := rfl
  rw [l7] at b7
  obtain ⟨V8, a8, b8, c8⟩ := copyF (d := d + 6) (r := 510) (r2 := 498) (K := V7) (z := z) rfl rfl (by decide +kernel) (by decide)
  have l8 : ln 510 = 12 := rfl
  rw [l8] at b8
  obtain ⟨V9, a9, b9, c9⟩ := copyF (d := d + 6) (r := 512) (r2 := 499) (K := V8) (z := z) rfl rfl (by decide +kernel) (by decide)
  have l9 : ln 512 = 1400 := rfl
  rw [l9] at b9
  have vr : ∀ q, q ≠ 489 → (q < 490 ∨ 499 < q) → V9 q = J q := fun q h1 h2 => by
    rw [c9 q (by omega), c8 q (by omega), c7 q (by omega), c6 q (by omega), c5 q (by omega), c4 q (by omega), c3 q (by omega), c2 q (by omega), c1 q (by omega), c0 q (by omega)]
    exact ur q h1
  have v9 : V9 489 = U 489 := by
    rw [c9 489 (by decide), c8 489 (by decide), c7 489 (by decide), c6 489 (by decide), c5 489 (by decide), c4 489 (by decide), c3 489 (by decide), c2 489 (by decide), c1 489 (by decide), c0 489 (by decide)]
  have w0 : ∀ j, j < 8 → V9 490 j = J 502 j := fun j hj => by
    rw [c9 490 (by decide), c8 490 (by decide), c7 490 (by decide), c6 490 (by decide), c5 490 (by decide), c4 490 (by decide), c3 490 (by decide), c2 490 (by decide), c1 490 (by decide), b0 j hj, ur 502 (by decide)]
  have w1 : ∀ j, j < 12 → V9 491 j = J 503 j := fun j hj => by
    rw [c9 491 (by decide), c8 491 (by decide), c7 491 (by decide), c6 491 (by decide), c5 491 (by decide), c4 491 (by decide), c3 491 (by decide), c2 491 (by decide), b1 j hj, c0 503 (by decide), ur 503 (by decide)]
  have w2 : ∀ j, j < 12 → V9 492 j = J 504 j := fun j hj => by
    rw [c9 492 (by decide), c8 492 (by decide), c7 492 (by decide), c6 492 (by decide), c5 492 (by decide), c4 492 (by decide), c3 492 (by decide), b2 j hj, c1 504 (by decide), c0 504 (by decide), ur 504 (by decide)]
  have w3 : ∀ j, j < 12 → V9 493 j = J 505 j := fun j hj => by
    rw [c9 493 (by decide), c8 493 (by decide), c7 493 (by decide), c6 493 (by decide), c5 493 (by decide), c4 493 (by decide), b3 j hj, c2 505 (by decide), c1 505 (by decide), c0 505 (by decide), ur 505 (by decide)]
  have w4 : ∀ j, j < 9 → V9 494 j = J 506 j := fun j hj => by
    rw [c9 494 (by decide), c8 494 (by decide), c7 494 (by decide), c6 494 (by decide), c5 494 (by decide), b4 j hj, c3 506 (by decide), c2 506 (by decide), c1 506 (by decide), c0 506 (by decide), ur 506 (by decide)]
  have w5 : ∀ j, j < 9 → V9 495 j = J 507 j := fun j hj => by
    rw [c9 495 (by decide), c8 495 (by decide), c7 495 (by decide), c6 495 (by decide), b5 j hj, c4 507 (by decide), c3 507 (by decide), c2 507 (by decide), c1 507 (by decide), c0 507 (by decide), ur 507 (by decide)]
  have w6 : ∀ j, j < 12 → V9 496 j = J 508 j := fun j hj => by
    rw [c9 496 (by decide), c8 496 (by decide), c7 496 (by decide), b6 j hj, c5 508 (by decide), c4 508 (by decide), c3 508 (by decide), c2 508 (by decide), c1 508 (by decide), c0 508 (by decide), ur 508 (by decide)]
  have w7 : ∀ j, j < 12 → V9 497 j = J 509 j := fun j hj => by
    rw [c9 497 (by decide), c8 497 (by decide), b7 j hj, c6 509 (by decide), c5 509 (by decide), c4 509 (by decide), c3 509 (by decide), c2 509 (by decide), c1 509 (by decide), c0 509 (by decide), ur 509 (by decide)]
  have w8 : ∀ j, j < 12 → V9 498 j = J 510 j := fun j hj => by
    rw [c9 498 (by decide), b8 j hj, c7 510 (by decide), c6 510 (by decide), c5 510 (by decide), c4 510 (by decide), c3 510 (by decide), c2 510 (by decide), c1 510 (by decide), c0 510 (by decide), ur 510 (by decide)]
  have w9 : ∀ j, j < 1400 → V9 499 j = J 512 j := fun j hj => by
    rw [b9 j hj, c8 512 (by decide), c7 512 (by decide), c6 512 (by decide), c5 512 (by decide), c4 512 (by decide), c3 512 (by decide), c2 512 (by decide), c1 512 (by decide), c0 512 (by decide), ur 512 (by decide)]
  generalize hX : (e_u (e_u (e_u (e_u V9 511 0 (e_n 0)) 511 1 (e_n 0)) 511 2 (e_n 0)) 511 3 (e_n 1)) = X
  have xr : ∀ r, r ≠ 511 → X r = V9 r := fun r hr => by
    rw [← hX]
    simp only [e_u_na hr]
  have x0 : X 511 0 = e_n 0 := by rw [← hX]; simp (disch := decide) only [e_u_ne, e_u_same]
  have x1' : X 511 1 = e_n 0 := by rw [← hX]; simp (disch := decide) only [e_u_ne, e_u_same]
  have x2' : X 511 2 = e_n 0 := by rw [← hX]; simp (disch := decide) only [e_u_ne, e_u_same]
  have x3' : X 511 3 = e_n 1 := by rw [← hX, e_u_same]
  have xk : ∀ k, 4 ≤ k → X 511 k = J 511 k := fun k hk => by
    rw [← hX, e_u_ne (by omega), e_u_ne (by omega), e_u_ne (by omega), e_u_ne (by omega), vr 511 (by decide) (by omega)]
  obtain ⟨Y1, p1, p2, p3⟩ := c216r (d := d) (x1 := x1) (z := z) 9 0 X rfl
  obtain ⟨G, g1, g2, g3⟩ := copyF (d := d + 6) (r := 511) (r2 := 515) (K := Y1) (z := z) rfl rfl (by decide +kernel) (by decide)
  have l511 : ln 511 = 34 := rfl
  rw [l511] at g2
  generalize hF : (e_u (e_u (e_u G 489 56 (e_n 0)) 489 76 (e_n 0)) 489 81 (e_n 0)) = F
  have fr' : ∀ r, r ≠ 489 → F r = G r := fun r hr => by
    rw [← hF]
    simp only [e_u_na hr]
  have fk : ∀ k, k ≠ 56 → k ≠ 76 → k ≠ 81 → F 489 k = G 489 k := fun k h1 h2 h3 => by rw [← hF, e_u_ne h3, e_u_ne h2, e_u_ne h1]
  have gv : ∀ r, r ≠ 515 → r ≠ 511 → G r = V9 r := fun r h1 h2 => by rw [g3 r h1, p3 r h2, xr r h2]
  have y511 : ∀ j, j < 34 → Y1 511 j = M0 J j := by
    intro j hj
    rw [p2 j]
    unfold M0
    by_cases c1 : (4 + 0 ≤ j ∧ j < 13) ∨ (13 + 0 ≤ j ∧ j < 22)
    · rw [if_pos c1, if_neg (by omega), if_neg (by omega), if_pos (by omega)]
    · rw [if_neg c1]
      by_cases c2 : j < 3
      · rw [if_pos c2]
        match j, c2 with
        | 0, _ => exact x0
        | 1, _ => exact x1'
        | 2, _ => exact x2'
      · rw [if_neg c2]
        by_cases c3 : j = 3
        · rw [if_pos c3, c3]; exact x3'
        · rw [if_neg c3, if_neg (by omega)]
          exact xk j (by omega)
  refine ⟨F, ?_, fun j hj => ?_, fun j hj => ⟨?_, ?_, ?_⟩, fun j hj => ⟨?_, ?_⟩, fun j hj => ⟨?_, ?_, ?_⟩, fun j hj => ?_, fun j hj => ?_, fun k h1 h2 => ?_, ?_, ?_, ?_, fun k h1 h2 h3 h4 => ?_, fun r h1 h2 h3 h4 => ?_⟩
  · have p1' : e_L (d + 7) 216 350 [.ref 489, .int x1, .int (e_n 0)] [] (mk X z) = e_L (d + 7) 216 350 [.ref 489, .int x1, .int (e_n ((9 : Nat) : Nat))] [] (mk Y1 z) := p1
    have n9 : ¬ e_n ((9 : Nat) : Nat) < e_n 9 := nlt_k (k := 9) (by decide)
    rw [C216_101, if_pos (RG_0 h), if_pos ((TR_0 h.1).mpr k0), hU, a0, e_rV_n, C216_212, a1, e_rV_n, C216_224, a2, e_rV_n, C216_236, a3, e_rV_n, C216_248, a4, e_rV_n, C216_260, a5, e_rV_n, C216_272, a6, e_rV_n, C216_284, a7, e_rV_n, C216_296, a8, e_rV_n, C216_308, a9, e_rV_n, C216_320, hX, p1', C216_350 (fun q => absurd q n9) (fun q => absurd q n9), if_neg n9, g1, e_rV_n, C216_393, hF]
  · rw [fr' 490 (by decide), gv 490 (by decide) (by decide)]; exact w0 j hj
  · rw [fr' 491 (by decide), gv 491 (by decide) (by decide)]; exact w1 j hj
  · rw [fr' 492 (by decide), gv 492 (by decide) (by decide)]; exact w2 j hj
  · rw [fr' 493 (by decide), gv 493 (by decide) (by decide)]; exact w3 j hj
  · rw [fr' 494 (by decide), gv 494 (by decide) (by decide)]; exact w4 j hj
  · rw [fr' 495 (by decide), gv 495 (by decide) (by decide)]; exact w5 j hj
  · rw [fr' 496 (by decide), gv 496 (by decide) (by decide)]; exact w6 j hj
  · rw [fr' 497 (by decide), gv 497 (by decide) (by decide)]; exact w7 j hj
  · rw [fr' 498 (by decide), gv 498 (by decide) (by decide)]; exact w8 j hj
  · rw [fr' 499 (by decide), gv 499 (by decide) (by decide)]; exact w9 j hj
  · rw [fr' 515 (by decide), g2 j hj]; exact y511 j hj
  · rw [fk k (by omega) (by omega) (by omega), gv 489 (by decide) (by decide), v9]; exact u7 k h1 h2
  · rw [← hF]; simp (disch := decide) only [e_u_ne, e_u_same]
  · rw [← hF]; simp (disch := decide) only [e_u_ne, e_u_same]
  · rw [← hF, e_u_same]
  · rw [fk k h2 h3 h4, gv 489 (by decide) (by decide), v9]; exact uk k h1
  · rw [fr' r h1, gv r h4 h3]; exact vr r h1 h2
end S99zzk
