/-! the class cuts the tape -/
section S99zm
theorem rn_lt {p : Int32 → Bool} {b : Nat → Int32} {n s : Nat} (hs : s < n) (h : p (b s) = true) : s < rn p b n (n - s) s := by
  obtain ⟨f, hf⟩ : ∃ f, n - s = f + 1 := ⟨n - s - 1, by omega⟩
  rw [hf]
  show s < (if s < n ∧ p (b s) = true then rn p b n f (s + 1) else s)
  rw [if_pos ⟨hs, h⟩]
  have := (rn_le p b n f (s + 1) (by omega)).1
  omega
theorem tkE_lt {b : Nat → Int32} {n s : Nat} (hs : s < n) : s < tkE b n s := by
  unfold tkE
  rw [if_neg (by omega)]
  split
  · rename_i h; exact rn_lt hs h
  · split
    · rename_i h; exact rn_lt hs h
    · omega
theorem skB_s {b : Nat → Int32} {n i : Nat} (hi : i < n) : skB b n i = if isB (b i) = true then skB b n (i + 1) else i := by
  unfold skB
  obtain ⟨f, hf⟩ : ∃ f, n - i = f + 1 := ⟨n - i - 1, by omega⟩
  rw [hf, show n - (i + 1) = f by omega]
  show (if i < n ∧ isB (b i) = true then rn isB b n f (i + 1) else i) = _
  by_cases h : isB (b i) = true
  · rw [if_pos ⟨hi, h⟩, if_pos h]
  · rw [if_neg (fun q => h q.2), if_neg h]
def FrT (I J : Nat → Nat → Int32) : Prop := ∀ r, r ≠ 45 → r ≠ 47 → r ≠ 48 → r ≠ 49 → J r = I r
theorem FrT_ad {I J : Nat → Nat → Int32} {t s : Nat} {k v : Int32} (h : FrT I J) : FrT I (adT J t k s v) := fun r h1 h2 h3 h4 => by
  unfold adT
  rw [e_u_na h1, e_u_na h4, e_u_na h3, e_u_na h2]; exact h r h1 h2 h3 h4
theorem CT_ad {J : Nat → Nat → Int32} {b : Nat → Int32} {n t : Nat} {k v : Int32} {s : Nat} (h : CT J b n t) (h1 : k = ckC b n (ps b n t)) (h2 : s = ps b n t) (h3 : v = cvC b n (ps b n t)) : CT (adT J t k s v) b n (t + 1) := by
  intro u hu
  unfold adT
  simp (disch := decide) only [e_u_na, e_u_at]
  by_cases hut : u = t
  · rw [if_pos hut, if_pos hut, if_pos hut, hut]
    exact ⟨h1, by rw [h2], h3⟩
  · rw [if_neg hut, if_neg hut, if_neg hut]
    exact h u (by omega)
theorem c102h {d m : Nat} {b : Nat → Int32} {I : Nat → Nat → Int32} {z : e_Z} (hm : m ≤ 700) (hb : ∀ k, k < m → I 2 k = b k) :
    ∃ I', e_E (d + 8) 102 [.ref 45, .ref 2, .int (e_n (m : Nat))] (mk I z) = some (.inl none, mk I' (zT z)) ∧ TK I' b m (skB b m 0) ∧ FrT I I' := by
  have hx : txa (zT z) = 2 := rfl
  have loop : ∀ (f i t turn : Nat) (J : Nat → Nat → Int32), m - i ≤ f → i ≤ m → turn + (m - i) ≤ 700 → t ≤ i → skB b m i = ps b m t → J 45 1 = e_n (m : Nat) → J 45 2 = e_n (t : Nat) → CT J b m t → FrT I J →
      ∃ J', e_L (d + 7) 102 25 [.ref 45, .ref 2, .int (e_n (m : Nat)), .int (e_n (i : Nat)), .int (e_n (turn : Nat))] [] (mk J (zT z)) = some (.inl none, mk J' (zT z)) ∧ TK J' b m (skB b m 0) ∧ FrT I J' := by
    intro f
    induction f with
    | zero =>
      intro i t turn J hf hi ht hti hp h1 h2 hA hF
      have him : i = m := by omega
      subst him
      have hpt : ps b i t = i := by
        rw [← hp]
        exact Nat.le_antisymm (skB_n (Nat.le_refl i)).2 (skB_n (Nat.le_refl i)).1
      have hA' : CT (adT J t (e_n 0) i (e_n 0)) b i (t + 1) := CT_ad hA (by rw [hpt]; unfold ckC; rw [if_pos (Nat.le_refl i)]) hpt.symm (by rw [hpt]; unfold cvC; rw [if_pos (Nat.le_refl i)])
      have hK2 : (e_u (adT J t (e_n 0) i (e_n 0)) 45 6 (e_n (-1))) 45 2 = e_n ((t + 1 : Nat) : Nat) := by
        rw [e_u_ne (by decide)]; exact e_u_same
      obtain ⟨J', s1, s2, s3, s4⟩ := stp_st (d := d + 5) (z := zT z) (x6 := 0) (J := e_u (adT J t (e_n 0) i (e_n 0)) 45 6 (e_n (-1))) (b := b) (n := i) (T := t) (c := 0) (Nat.zero_le _) (by omega) hpt hK2 (fun u hu => by
        have := hA' u hu
        simp (disch := decide) only [e_u_na]
        exact this) (by
        rw [hK2, e_u_same, e_n_sub, if_pos (by rw [e_n_lt (by decide) (by decide) (by omega) (by omega)]; omega), e_n_add]
        rfl)
      refine ⟨J', ?_, s2, fun r r1 r2 r3 r4 => by rw [s3 r r1, e_u_na r1]; exact FrT_ad hF r r1 r2 r3 r4⟩
      rw [C102_25, h1, if_pos (by rw [show (e_n 701) = e_n ((701 : Nat) : Nat) from rfl, e_n_ltN (by omega) (by omega)]; omega), if_neg (by rw [e_n_ltN (by omega) (by omega)]; omega), c103h (d := d + 5) (by omega) h2, e_rV_n, C102_83, s1, e_rV_n, C102_92]
    | succ f ih =>
      intro i t turn J hf hi ht hti hp h1 h2 hA hF
      by_cases him : i = m
      · exact ih i t turn J (by omega) hi ht hti hp h1 h2 hA hF
      · have hlt : i < m := by omega
        have hbi : rd J (txa (zT z)) (e_n (i : Nat)) = b i := by
          rw [hx, rd_N (r := 2) (show i < 700 by omega), hF 2 (by decide) (by decide) (by decide) (by decide)]; exact hb i hlt
        have hsk := skB_s (b := b) hlt
        rw [C102_25, h1, hbi, if_pos (by rw [show (e_n 701) = e_n ((701 : Nat) : Nat) from rfl, e_n_ltN (by omega) (by omega)]; omega), if_pos (by rw [e_n_ltN (by omega) (by omega)]; exact hlt), e_n_succ, e_n_succ]
        by_cases hB : isB (b i) = true
        · rw [if_pos hB] at hsk
          rw [if_pos (by
            unfold isB at hB
            rw [Bool.or_eq_true, decide_eq_true_eq, decide_eq_true_eq] at hB
            exact hB)]
          exact ih (i + 1) t (turn + 1) J (by omega) (by omega) (by omega) (by omega) (by rw [← hsk]; exact hp) h1 h2 hA hF
        · rw [if_neg hB] at hsk
          have hpt : i = ps b m t := by rw [← hp, hsk]
          obtain ⟨he1, he2⟩ := tkE_n (b := b) (Nat.le_of_lt hlt)
          have hel := tkE_lt (b := b) hlt
          obtain ⟨J', q1, q2, q3⟩ := ih (tkE b m i) (t + 1) (turn + 1) (adT J t (ckC b m i) i (cvC b m i)) (by omega) he2 (by omega) (by omega) (by show skB b m (tkE b m i) = skB b m (tkE b m (ps b m t)); rw [← hpt]) (by unfold adT; rw [e_u_ne (by decide), e_u_na (by decide), e_u_na (by decide), e_u_na (by decide)]; exact h1) e_u_same (CT_ad hA (by rw [← hpt]) hpt (by rw [← hpt])) (FrT_ad hF)
          refine ⟨J', ?_, q2, q3⟩
          rw [if_neg (fun h => hB (by unfold isB; rw [Bool.or_eq_true, decide_eq_true_eq, decide_eq_true_eq]; exact h)), c104h (b := b) hm hx h1 h2 (by omega) hlt (fun k hk => by rw [hF 2 (by decide) (by decide) (by decide) (by decide)]; exact hb k hk), e_rI_i, C102_66, e_n_succ]
          exact q1
  have hmin : e_min (e_n (m : Nat)) (Int32.ofNat 700) = e_n (m : Nat) := by
    rw [e_n_of, e_min_n (by omega) (by omega), Nat.min_eq_left hm]
  obtain ⟨I', a1, a2, a3⟩ := loop m 0 0 0 (e_u (e_u I 45 1 (e_n (m : Nat))) 45 2 (e_n 0)) (by omega) (Nat.zero_le _) (by omega) (Nat.le_refl _) rfl (by rw [e_u_ne (by decide), e_u_same]) e_u_same (fun u hu => absurd hu (Nat.not_lt_zero u)) (fun r r1 _ _ _ => by rw [e_u_na r1, e_u_na r1])
  refine ⟨I', e_E_ret (d := d + 7) ?_, a2, a3⟩
  show e_L (d + 7) 102 0 [.ref 45, .ref 2, .int (e_n (m : Nat)), .null, .null] [] (mk I z) = _
  rw [C102_0, mk_zT, C102_5, hmin]
  exact a1
end S99zm
