/-! what the class looks ahead -/
section S72
theorem zF_s (z : e_Z) : (zF z z.2.1.1).2.1.1 = z.2.1.1 := rfl
theorem FC_fld {I : Nat → Nat → Int32} {B : e_B} {S : e_T} {T k : Nat} {v : Int32} (hk : k < 6) (hF : FC I B S T) : FC (e_u I 470 k v) B S T := by
  obtain ⟨f1, f2, f3, f4, f5, f6, f7, f8⟩ := hF
  refine ⟨MoC_fr (fun j hj => e_u_na (by omega)) f1, ?_, ?_, ?_, ?_, ?_, ?_, ?_⟩
  · rw [e_u_ne (by omega)]; exact f2
  · rw [e_u_ne (by omega)]; exact f3
  · rw [e_u_ne (by omega)]; exact f4
  · rw [e_u_na (by decide)]; exact f5
  · rw [e_u_na (by decide)]; exact f6
  · rw [e_u_na (by decide)]; exact f7
  · rw [e_u_na (by decide), e_u_na (by decide)]; exact f8
/-- begin and run, with what is otherwise than told -/
theorem ahead {d many t : Nat} {I J : Nat → Nat → Int32} {z : e_Z} {B : e_B} {M : Nat → Int32} {sk cl sn sm : Int32} (wb : WB B) (wm : WM B M) (hB : BrC I (bd z.2.1.1) B) (hJ : FC J B (begS M) 0) (hq : ∀ r, (r < 470 ∨ 480 < r) → J r = I r) (hm : many ≤ 30) (ht : t ≤ 60) (hd : M 0 = e_n (t : Nat)) (hp : ∀ i : Nat, i < 30 → sm = e_n (i : Nat) → ∃ p, p < bPe B ∧ sn = e_n (p : Nat)) (h2 : J 470 2 = sk) (h3 : J 470 3 = cl) (h4 : J 470 4 = sn) (h5 : J 470 5 = sm) :
    ∃ I', e_E (d + 6) 13 [.ref 470, .int (e_n (many : Nat))] (mk J (zF z z.2.1.1)) = some (.inl none, mk I' (zF z z.2.1.1)) ∧ FC I' B (itr (rn1 B sk cl sn sm) (min many (60 - t)) 0 (begS M)) (min many (60 - t)) ∧ WS B (itr (rn1 B sk cl sn sm) (min many (60 - t)) 0 (begS M)) ∧ itr (rn1 B sk cl sn sm) (min many (60 - t)) 0 (begS M) 0 0 = e_n ((t + min many (60 - t) : Nat) : Nat) ∧ I' 470 6 = flS B sk cl sn sm (min many (60 - t)) 0 (begS M) (J 470 6) ∧ (∀ r, r ≠ bd z.2.1.1 + 10 → r ≠ bd z.2.1.1 + 11 → (r < 470 ∨ 480 < r) → I' r = I r) := by
  have hbl := B2_le (B2_bd z.2.1.1)
  have ws : WS B (begS M) := ⟨wm, 0, rfl, by have := cnt_le (bPe B) (fun p => decide (begS M 0 (4 + p) = e_n (-1))); have : bPe B ≤ 9 := wb.2.2.2.1; omega⟩
  obtain ⟨I', a1, a2, a3, a4, a5, a6⟩ := c13h (d := d) (z := zF z z.2.1.1) (S := begS M) wb hm ht hp (BrC_fr (fun k _ _ _ _ _ => hq _ (by show bd z.2.1.1 + k < 470 ∨ _; omega)) hB) hJ ws hd h2 h3 h4 h5
  exact ⟨I', a1, a2, a3, a4, a5, fun r r1 r2 hr => by rw [a6 r r1 r2 hr, hq r hr]⟩
/-- 30 mornings ahead of now -/
theorem c135h {d t : Nat} {I : Nat → Nat → Int32} {z : e_Z} {B : e_B} {M : Nat → Int32} (wb : WB B) (wm : WM B M) (hB : BrC I (bd z.2.1.1) B) (hM : MoC I 51 B M) (ht : t ≤ 60) (hd : M 0 = e_n (t : Nat)) :
    ∃ I', e_E (d + 7) 135 [.ref 1] (mk I z) = some (.inl none, mk I' (zF z z.2.1.1)) ∧ FC I' B (itr (moS B (e_n (-1))) (min 30 (60 - t)) 0 (begS M)) (min 30 (60 - t)) ∧ WS B (itr (moS B (e_n (-1))) (min 30 (60 - t)) 0 (begS M)) ∧ (∀ r, r ≠ bd z.2.1.1 + 10 → r ≠ bd z.2.1.1 + 11 → (r < 470 ∨ 480 < r) → I' r = I r) := by
  obtain ⟨J, a1, a2, a3, a4, a5, a6⟩ := c12h (d := d + 3) (z := z) (s := z.2.1.1) wb wm hM
  obtain ⟨I', b1, b2, b3, b4, b5, b6⟩ := ahead (d := d) (z := z) (many := 30) (sk := e_n (-1)) (cl := e_n (-1)) (sn := e_n (-1)) (sm := e_n (-1)) wb wm hB a2 a6 (by decide) ht hd (fun i hi h => absurd h.symm (e_n_neg1 (by omega))) (a4 2 (by decide) (by decide)) (a4 3 (by decide) (by decide)) (a4 4 (by decide) (by decide)) (a4 5 (by decide) (by decide))
  rw [rn_mo _ _ _ _ _ _ (by omega)] at b2 b3
  refine ⟨I', e_E_ret (d := d + 6) ?_, b2, b3, b6⟩
  show e_L (d + 6) 135 0 [.ref 1] [] (mk I z) = _
  rw [C135_0, a1, e_rV_n, C135_18, show (e_n 30) = e_n ((30 : Nat) : Nat) from rfl, b1, e_rV_n, C135_27]
end S72
