/-! the reference's machine: level by level -/
section S99zza
def Mn (b : Nat → Int32) (n : Nat) (m : Bool × Nat) (p : Nat) : Prop := ¬ (m.1 = true ∧ Yw b n p = e_n ((16 : Nat) : Nat))
theorem nop_stop {b : Nat → Int32} {n q f : Nat} {o W : List Int32} {T : List Bool} (h : NOP b n 1 q T) (hc : ¬ Ysg b n q (e_n 41)) : Zr b n (f + 1) none q o W T = .inl (q, o, W, T) := by
  obtain ⟨h6, h5, h4, h2, h1⟩ := h
  have a6 := Yts_n (h6 (by decide))
  have a5 := Yts_n (h5 (by decide))
  have a2 := Ytw_n (h2 (by decide))
  have a1 := Ytw_n (h1 (by decide))
  have a4 : ∀ c, c = e_n 60 ∨ c = e_n 61 → ¬ (Ysg b n q c ∧ T.headD true = false) := by
    intro c hc q2
    rcases h4 (by decide) with h | h
    · have := Yts_n h
      rcases hc with rfl | rfl
      · exact this.1 q2.1
      · exact this.2 q2.1
    · rw [h] at q2; exact absurd q2.2 (by decide)
  rw [Zr_af, if_neg a2, if_neg a1, if_neg (a4 _ (Or.inl rfl)), if_neg (a4 _ (Or.inr rfl)), if_neg a5.1, if_neg a5.2, if_neg a6.1, if_neg a6.2, if_neg (fun q => hc q.1)]
theorem nop_close {b : Nat → Int32} {n q f : Nat} {o W : List Int32} {T : List Bool} (hc : Ysg b n q (e_n 41)) (hW : 1 ≤ Zco W) : Zr b n (f + 1) none q o W T = Zr b n f none (nxP b n q) (Zdr (e_n 0) o W).1 (Zdr (e_n 0) o W).2.tail T.tail := by
  rw [Zr_af, if_neg (Ysg_w (k := 14) (by decide) hc), if_neg (Ysg_w (k := 15) (by decide) hc), if_neg (fun q => Ysg_ne hc (show ¬ e_n 41 = e_n 60 by decide) q.1), if_neg (fun q => Ysg_ne hc (show ¬ e_n 41 = e_n 61 by decide) q.1), if_neg (Ysg_ne hc (by decide)), if_neg (Ysg_ne hc (by decide)), if_neg (Ysg_ne hc (by decide)), if_neg (Ysg_ne hc (by decide)), if_pos ⟨hc, hW⟩]
theorem Zco_P {L : Nat} : ∀ (P W : List Int32), PEND L P → Zco (P.map rop ++ W) = Zco W
  | [], W, _ => rfl
  | c :: P, W, h => by
    show Zco (rop c :: (P.map rop ++ W)) = Zco W
    rw [Zco_c (h c (List.mem_cons_self ..)).2.1]
    exact Zco_P P W (fun x hx => h x (List.mem_cons_of_mem _ hx))
theorem NOP_7 {b : Nat → Int32} {n q : Nat} {T : List Bool} : NOP b n 7 q T := ⟨fun h => absurd h (by decide), fun h => absurd h (by decide), fun h => absurd h (by decide), fun h => absurd h (by decide), fun h => absurd h (by decide)⟩
theorem part_sim {b : Nat → Int32} {n d : Nat} (hd : ∀ d', d = d' + 1 → SIM b n (fun m _ => m = (true, 0)) d' 1 1 (Yexp b n d)) : SIM b n (Mn b n) d 7 7 (Ypart b n (Yexp b n d)) := by
  intro f m p o W T hp hf hm hW hT1 hTd h4
  obtain ⟨mn, k⟩ := m
  obtain ⟨f, rfl⟩ : ∃ g, f = g + 1 := ⟨f - 1, by omega⟩
  have hm' : ¬ (mn = true ∧ Yw b n p = e_n ((16 : Nat) : Nat)) := hm
  rw [Zr_op, if_neg hm']
  unfold Ypart
  by_cases k1 : tkK b n p = 1
  · have hns : ¬ Ysg b n p (e_n 40) := fun q => absurd (k1.symm.trans q.1) (by decide)
    have hlt := nxP_lt (b := b) (n := n) (p := p) (tk_1 k1).1
    rw [if_neg hns, if_neg (fun q => absurd (k1.symm.trans q) (by decide)), if_pos k1, if_pos k1]
    by_cases hc : Yw b n p < 0 ∨ e_n 7 < Yw b n p
    · rw [if_pos hc, if_pos hc, SO_er]
      exact Or.inl rfl
    · rw [if_neg hc, if_neg hc, SO_in]
      refine ⟨f, [e_n (-1) - Yw b n p], [], T, by omega, ?_, rfl, PEND_nil, rfl, hT1, fun _ => rfl, NOP_7⟩
      have he : enc [e_n (-1) - Yw b n p] = [e_n 2, Yw b n p] := by
        rcases Yw_v b n p with ⟨j, hj, e⟩ | e
        · have h8 : j < 8 := by
            apply Decidable.byContradiction
            intro h8
            refine hc (Or.inr ?_)
            rw [e, show (e_n 7) = e_n ((7 : Nat) : Nat) from rfl, e_n_ltN (by omega) (by omega)]
            omega
          rw [e]
          have : ∀ j : Fin 8, enc [e_n (-1) - e_n (j.val : Nat)] = [e_n 2, e_n (j.val : Nat)] := by decide +kernel
          exact this ⟨j, h8⟩
        · exact absurd (Or.inl (by rw [e]; decide)) hc
      rw [he]
      rfl
  · rw [if_neg k1, if_neg k1]
    by_cases k2 : tkK b n p = 2
    · have hns : ¬ Ysg b n p (e_n 40) := fun q => absurd (k2.symm.trans q.1) (by decide)
      have hlt := nxP_lt (b := b) (n := n) (p := p) (tk_2 k2).1
      rw [if_neg hns, if_pos k2, if_pos k2]
      by_cases hc : 4 < Yln b n p
      · rw [if_pos hc, if_pos hc, SO_er]
        exact Or.inl rfl
      · rw [if_neg hc, if_neg hc, SO_in]
        refine ⟨f, [Ynm b n p], [], T, by omega, ?_, rfl, PEND_nil, rfl, hT1, fun _ => rfl, NOP_7⟩
        have he : enc [Ynm b n p] = [e_n 1, Ynm b n p] := by
          obtain ⟨v, v1, v2⟩ := Ynm_n k2 hc
          rw [v2]
          show enc1 (e_n (v : Nat)) ++ [] = _
          unfold enc1
          rw [if_neg (by rw [e_n_lt (by omega) (by omega) (by decide) (by decide)]; omega), if_neg (by rw [show (0 : Int32) = e_n ((0 : Nat) : Nat) from rfl, e_n_ltN (by omega) (by omega)]; omega)]
          rfl
        rw [he]
        rfl
    · rw [if_neg k2, if_neg k2]
      by_cases k3 : Ysg b n p (e_n 40)
      · have hlt := nxP_lt (b := b) (n := n) (p := p) (tk_3 k3.1).1
        rw [if_pos k3, if_pos k3]
        cases d with
        | zero =>
          rw [if_neg (by omega)]
          exact Or.inl rfl
        | succ d' =>
          rw [if_pos (by omega)]
          have hs := hd d' rfl f (true, 0) (nxP b n p) o (e_n 14 :: W) (false :: T) hlt.2 (by omega) rfl LIM_14 (by simp) (by simp; omega) (fun _ => rfl)
          cases hx : Yexp b n (d' + 1) (nxP b n p) with
          | inr e =>
            obtain ⟨g, q⟩ := e
            rw [hx, SO_er] at hs
            exact hs
          | inl r =>
            obtain ⟨q, a⟩ := r
            rw [hx, SO_in] at hs
            obtain ⟨f', a1, P, T', s1, s2, s3, s4, s5, s6, s7, s8⟩ := hs
            rw [s2, Yb_l]
            obtain ⟨g1, g2, g3⟩ := YG_exp (b := b) (n := n) (d' + 1) _ _ _ hlt.2 hx
            obtain ⟨f', rfl⟩ : ∃ g, f' = g + 1 := ⟨f' - 1, by omega⟩
            by_cases k4 : Ysg b n q (e_n 41)
            · have hlt2 := nxP_lt (b := b) (n := n) (p := q) (tk_3 k4.1).1
              rw [if_pos k4, nop_close k4 (by rw [Zco_P P _ s4, Zco_14]; omega), SO_in]
              have hz := Zdr_PL (L := 0) (o := o ++ enc a1) (PEND_mono (Nat.zero_le 1) (by decide) s4) (LIM_14 (W := W))
              rw [show (e_n 0) = e_n ((0 : Nat) : Nat) from rfl, hz]
              refine ⟨f', a, [], T, by omega, ?_, by simp, PEND_nil, rfl, hT1, fun _ => rfl, NOP_7⟩
              rw [s3, enc_ap, enc_P P s4, s5]
              simp
            · rw [if_neg k4, nop_stop s8 k4, SO_er]
              refine Or.inr ⟨rfl, _, _, _, rfl, ?_⟩
              have := congrArg List.length s5
              simp at this
              omega
      · rw [if_neg k3, if_neg k3, SO_er]
        exact Or.inl rfl
theorem prod_sim {b : Nat → Int32} {n d : Nat} (hn : n ≤ 700) (h : SIM b n (Mn b n) d 7 7 (Ypart b n (Yexp b n d))) : SIM b n (Mn b n) d 6 6 (Yprod b n (Yexp b n d)) := by
  refine SIM_b (TX := fun T => T) (mn := false) hn h (YG_part (YG_exp d)) (fun p q => absurd q.1 (by decide)) (by decide) (by decide) Yts_k ?_ ?_ (fun T h => ⟨rfl, h, fun q => absurd q (by decide), fun _ => rfl⟩) (fun _ => by decide) ?_ (fun m p q => q) (fun q => absurd q (by decide)) (by decide) (by decide)
  · intro p c hc
    rcases Yts_s hc with ⟨-, rfl⟩ | ⟨-, -, rfl⟩
    · exact ⟨⟨by decide, by decide, by decide⟩, by decide⟩
    · exact ⟨⟨by decide, by decide, by decide⟩, by decide⟩
  · intro f p c o W T hc
    rcases Yts_s hc with ⟨hs, rfl⟩ | ⟨hs0, hs, rfl⟩
    · rw [Zr_af, if_neg (Ysg_w (k := 14) (by decide) hs), if_neg (Ysg_w (k := 15) (by decide) hs), if_neg (fun q => Ysg_ne hs (show ¬ e_n 42 = e_n 60 by decide) q.1), if_neg (fun q => Ysg_ne hs (show ¬ e_n 42 = e_n 61 by decide) q.1), if_neg (Ysg_ne hs (by decide)), if_neg (Ysg_ne hs (by decide)), if_pos hs]
      rfl
    · rw [Zr_af, if_neg (Ysg_w (k := 14) (by decide) hs), if_neg (Ysg_w (k := 15) (by decide) hs), if_neg (fun q => Ysg_ne hs (show ¬ e_n 47 = e_n 60 by decide) q.1), if_neg (fun q => Ysg_ne hs (show ¬ e_n 47 = e_n 61 by decide) q.1), if_neg (Ysg_ne hs (by decide)), if_neg (Ysg_ne hs (by decide)), if_neg hs0, if_pos hs]
      rfl
  · intro q T hN ht
    exact ⟨fun _ => ht, fun h => absurd h (by decide), fun h => absurd h (by decide), fun h => absurd h (by decide), fun h => absurd h (by decide)⟩
theorem sum_sim {b : Nat → Int32} {n d : Nat} (hn : n ≤ 700) (h : SIM b n (Mn b n) d 6 6 (Yprod b n (Yexp b n d))) : SIM b n (Mn b n) d 5 5 (Ysum b n (Yexp b n d)) := by
  refine SIM_b (TX := fun T => T) (mn := false) hn h (YG_prod (YG_exp d)) (fun p q => absurd q.1 (by decide)) (by decide) (by decide) Yts_k ?_ ?_ (fun T h => ⟨rfl, h, fun q => absurd q (by decide), fun _ => rfl⟩) (fun _ => by decide) ?_ (fun m p q => q) (fun q => absurd q (by decide)) (by decide) (by decide)
  · intro p c hc
    rcases Yts_s hc with ⟨-, rfl⟩ | ⟨-, -, rfl⟩
    · exact ⟨⟨by decide, by decide, by decide⟩, by decide⟩
    · exact ⟨⟨by decide, by decide, by decide⟩, by decide⟩
  · intro f p c o W T hc
    rcases Yts_s hc with ⟨hs, rfl⟩ | ⟨hs0, hs, rfl⟩
    · rw [Zr_af, if_neg (Ysg_w (k := 14) (by decide) hs), if_neg (Ysg_w (k := 15) (by decide) hs), if_neg (fun q => Ysg_ne hs (show ¬ e_n 43 = e_n 60 by decide) q.1), if_neg (fun q => Ysg_ne hs (show ¬ e_n 43 = e_n 61 by decide) q.1), if_pos hs]
      rfl
    · rw [Zr_af, if_neg (Ysg_w (k := 14) (by decide) hs), if_neg (Ysg_w (k := 15) (by decide) hs), if_neg (fun q => Ysg_ne hs (show ¬ e_n 45 = e_n 60 by decide) q.1), if_neg (fun q => Ysg_ne hs (show ¬ e_n 45 = e_n 61 by decide) q.1), if_neg hs0, if_pos hs]
      rfl
  · intro q T hN ht
    exact ⟨fun _ => hN.1 (by decide), fun _ => ht, fun h => absurd h (by decide), fun h => absurd h (by decide), fun h => absurd h (by decide)⟩
theorem test_sim {b : Nat → Int32} {n d : Nat} (hX : SIM b n (Mn b n) d 5 5 (Ysum b n (Yexp b n d))) : SIM b n (Mn b n) d 4 4 (Ytest b n (Yexp b n d)) := by
  intro f m p o W T hp hf hm hW hT1 hTd h4
  have hhd := h4 (by decide)
  have hG : YG n (Ysum b n (Yexp b n d)) := YG_sum (YG_exp d)
  have hs := hX f m p o W T hp hf hm (LIM_mono (by decide) (by decide) hW) hT1 hTd (fun q => absurd q (by decide))
  unfold Ytest
  cases hx : Ysum b n (Yexp b n d) p with
  | inr e =>
    obtain ⟨g2, q⟩ := e
    rw [hx, SO_er] at hs
    rw [Yb_r, SO_er]
    exact hs
  | inl r =>
    obtain ⟨q, a2⟩ := r
    rw [hx, SO_in] at hs
    obtain ⟨f', a1, P, T', s1, s2, s3, s4, s5, s6, s7, s8⟩ := hs
    obtain ⟨g1, g2, g3⟩ := hG _ _ _ hp hx
    have hTT := s7 (by decide)
    subst hTT
    rw [Yb_l, s2, Ylp_s]
    have hP4 : PEND 4 P := PEND_mono (by decide) (by decide) s4
    cases htk : Yt4 b n q with
    | none =>
      rw [Yo_n, SO_in]
      exact ⟨f', a1, P, T', s1, rfl, s3, hP4, rfl, hT1, fun h => absurd h (by decide), fun _ => s8.1 (by decide), fun _ => s8.2.1 (by decide), fun _ => Or.inl htk, fun h => absurd h (by decide), fun h => absurd h (by decide)⟩
    | some c =>
      rw [Yo_s]
      have hpn := tk_lt (Yts_k q c htk)
      have hlt := nxP_lt (b := b) hpn
      obtain ⟨f', rfl⟩ : ∃ g, f' = g + 1 := ⟨f' - 1, by omega⟩
      have c12 : OPc 4 c ∧ zst (rop c) < e_n ((5 : Nat) : Nat) := by
        rcases Yts_s htk with ⟨-, rfl⟩ | ⟨-, -, rfl⟩
        · exact ⟨⟨by decide, by decide, by decide⟩, by decide⟩
        · exact ⟨⟨by decide, by decide, by decide⟩, by decide⟩
      have hstep : Zr b n (f' + 1) none q (o ++ enc a1) (P.map rop ++ W) T' = Zr b n f' (some (false, 0)) (nxP b n q) (o ++ enc a1 ++ P.map rop) (rop c :: W) (Zsh true T') := by
        have hz := Zdr_PL (o := o ++ enc a1) hP4 hW
        rcases Yts_s htk with ⟨hs, rfl⟩ | ⟨hs0, hs, rfl⟩
        · rw [Zr_af, if_neg (Ysg_w (k := 14) (by decide) hs), if_neg (Ysg_w (k := 15) (by decide) hs), if_pos ⟨hs, hhd⟩, show (e_n 4) = e_n ((4 : Nat) : Nat) from rfl, hz]
          rfl
        · rw [Zr_af, if_neg (Ysg_w (k := 14) (by decide) hs), if_neg (Ysg_w (k := 15) (by decide) hs), if_neg (fun q => hs0 q.1), if_pos ⟨hs, hhd⟩, show (e_n 4) = e_n ((4 : Nat) : Nat) from rfl, hz]
          rfl
      rw [hstep]
      have ht2 : (Zsh true T').length = T'.length := by
        unfold Zsh
        simp
        omega
      have hr := hX f' (false, 0) (nxP b n q) (o ++ enc a1 ++ P.map rop) (rop c :: W) (Zsh true T') hlt.2 (by omega) (fun q => absurd q.1 (by decide)) (LIM_op c12.1.2.1 c12.2) (by omega) (by omega) (fun q => absurd q (by decide))
      cases hy : Ysum b n (Yexp b n d) (nxP b n q) with
      | inr e =>
        obtain ⟨g3, q3⟩ := e
        rw [hy, SO_er] at hr
        rw [Yb_r, SO_er]; exact hr
      | inl r =>
        obtain ⟨q3, a3⟩ := r
        rw [hy, SO_in] at hr
        obtain ⟨f3, b1, P3, T3, r1, r2, r3, r4, r5, r6, r7, r8⟩ := hr
        have hT3 := r7 (by decide)
        subst hT3
        rw [Yb_l, Ylp_0, SO_in]
        refine ⟨f3, a1 ++ P ++ b1, P3 ++ [c], Zsh true T', r1, ?_, by rw [s3, r3]; simp, PEND_add (PEND_mono (by decide) (by decide) r4) c12.1, rfl, r6, fun h => absurd h (by decide), fun _ => r8.1 (by decide), fun _ => r8.2.1 (by decide), fun _ => Or.inr rfl, fun h => absurd h (by decide), fun h => absurd h (by decide)⟩
        rw [r2]
        have e1 : o ++ enc a1 ++ P.map rop ++ enc b1 = o ++ enc (a1 ++ P ++ b1) := by
          rw [enc_ap, enc_ap, enc_P P s4]
          simp
        have e2 : P3.map rop ++ rop c :: W = (P3 ++ [c]).map rop ++ W := by simp
        rw [e1, e2]
theorem not_sim {b : Nat → Int32} {n d : Nat} (hX : SIM b n (Mn b n) d 4 4 (Ytest b n (Yexp b n d))) : ∀ k, k ≤ 6 → SIM b n (fun m _ => m = (true, 6 - k)) d 4 3 (Ynot b n (Yexp b n d) k) := by
  have base : ∀ f m p o W T, p ≤ n → n < p + f → ¬ Yw b n p = e_n ((16 : Nat) : Nat) → LIM 4 W → 1 ≤ T.length → T.length + d = 6 → T.headD true = false → SO b n 3 (Zr b n f (some m) p o W T) o W T (Ytest b n (Yexp b n d) p) := by
    intro f m p o W T hp hf hw hW hT1 hTd h4
    have hs := hX f m p o W T hp hf (fun q => hw q.2) hW hT1 hTd (fun _ => h4)
    cases hx : Ytest b n (Yexp b n d) p with
    | inr e =>
      obtain ⟨g2, q⟩ := e
      rw [hx, SO_er] at hs
      rw [SO_er]; exact hs
    | inl r =>
      obtain ⟨q, a2⟩ := r
      rw [hx, SO_in] at hs
      obtain ⟨f', a1, P, T', s1, s2, s3, s4, s5, s6, s7, s8⟩ := hs
      rw [SO_in]
      exact ⟨f', a1, P, T', s1, s2, s3, PEND_mono (by decide) (by decide) s4, s5, s6, fun h => absurd h (by decide), fun _ => s8.1 (by decide), fun _ => s8.2.1 (by decide), fun _ => s8.2.2.1 (by decide), fun h => absurd h (by decide), fun h => absurd h (by decide)⟩
  intro k
  induction k with
  | zero =>
    intro hk f m p o W T hp hf hm hW hT1 hTd h4
    have e : Ynot b n (Yexp b n d) 0 p = if Yw b n p = e_n ((16 : Nat) : Nat) then .inr (2, p) else Ytest b n (Yexp b n d) p := rfl
    rw [e]
    by_cases hw : Yw b n p = e_n ((16 : Nat) : Nat)
    · obtain ⟨f, rfl⟩ : ∃ g, f = g + 1 := ⟨f - 1, by omega⟩
      replace hm : m = (true, 6 - 0) := hm
      have hy : true = true ∧ Yw b n p = e_n ((16 : Nat) : Nat) := ⟨rfl, hw⟩
      rw [if_pos hw, hm, Zr_op, if_pos hy, if_pos rfl, SO_er]
      exact Or.inl rfl
    · rw [if_neg hw]
      exact base f m p o W T hp hf hw hW hT1 hTd (h4 (by decide))
  | succ k ih =>
    intro hk f m p o W T hp hf hm hW hT1 hTd h4
    have e : Ynot b n (Yexp b n d) (k + 1) p = if Yw b n p = e_n ((16 : Nat) : Nat) then Yb (Ynot b n (Yexp b n d) k (nxP b n p)) (fun q a => .inl (q, a ++ [e_n (-11)])) else Ytest b n (Yexp b n d) p := rfl
    rw [e]
    by_cases hw : Yw b n p = e_n ((16 : Nat) : Nat)
    · obtain ⟨f, rfl⟩ : ∃ g, f = g + 1 := ⟨f - 1, by omega⟩
      replace hm : m = (true, 6 - (k + 1)) := hm
      have hlt := nxP_lt (b := b) (n := n) (p := p) (tk_1 (Yw_1 (k := 16) (by decide) hw)).1
      have hy : true = true ∧ Yw b n p = e_n ((16 : Nat) : Nat) := ⟨rfl, hw⟩
      rw [if_pos hw, hm, Zr_op, if_pos hy, if_neg (by omega), show 6 - (k + 1) + 1 = 6 - k by omega]
      have hs := ih (by omega) f (true, 6 - k) (nxP b n p) o (e_n 3 :: W) T hlt.2 (by omega) rfl (LIM_op (by decide) (by decide)) hT1 hTd h4
      cases hx : Ynot b n (Yexp b n d) k (nxP b n p) with
      | inr e =>
        obtain ⟨g2, q⟩ := e
        rw [hx, SO_er] at hs
        rw [Yb_r, SO_er]; exact hs
      | inl r =>
        obtain ⟨q, a2⟩ := r
        rw [hx, SO_in] at hs
        obtain ⟨f', a1, P, T', s1, s2, s3, s4, s5, s6, s7, s8⟩ := hs
        rw [Yb_l, SO_in]
        refine ⟨f', a1, P ++ [e_n (-11)], T', s1, ?_, by rw [s3]; simp, PEND_add s4 ⟨by decide, by decide, by decide⟩, s5, s6, s7, s8⟩
        rw [s2]
        simp
        rfl
    · rw [if_neg hw]
      exact base f m p o W T hp hf hw hW hT1 hTd (h4 (by decide))
theorem and_sim {b : Nat → Int32} {n d : Nat} (hn : n ≤ 700) (h : SIM b n (fun m _ => m = (true, 0)) d 4 3 (Ynot b n (Yexp b n d) 6)) : SIM b n (fun m _ => m = (true, 0)) d 2 2 (Yand b n (Yexp b n d)) := by
  refine SIM_b (TX := Zsh false) (mn := true) hn h (YG_not (YG_exp d) 6) (fun p => rfl) (by decide) (by decide) (Ytw_k (by decide)) ?_ ?_ (fun T h => ⟨rfl, by simp [Zsh], fun _ => rfl, fun q => absurd q (by decide)⟩) (fun q => absurd q (by decide)) ?_ (fun m p q => q) (fun _ => by decide) (by decide) (by decide)
  · intro p c hc
    obtain ⟨-, rfl⟩ := Ytw_s hc
    exact ⟨⟨by decide, by decide, by decide⟩, by decide⟩
  · intro f p c o W T hc
    obtain ⟨hw, rfl⟩ := Ytw_s hc
    rw [Zr_af, if_pos hw]
    rfl
  · intro q T hN ht
    exact ⟨fun _ => hN.1 (by decide), fun _ => hN.2.1 (by decide), fun _ => hN.2.2.1 (by decide), fun _ => ht, fun h => absurd h (by decide)⟩
theorem or_sim {b : Nat → Int32} {n d : Nat} (hn : n ≤ 700) (h : SIM b n (fun m _ => m = (true, 0)) d 2 2 (Yand b n (Yexp b n d))) : SIM b n (fun m _ => m = (true, 0)) d 1 1 (Yor b n (Yexp b n d)) := by
  refine SIM_b (TX := Zsh false) (mn := true) hn h (YG_and (YG_exp d)) (fun p => rfl) (by decide) (by decide) (Ytw_k (by decide)) ?_ ?_ (fun T h => ⟨rfl, by simp [Zsh], fun _ => rfl, fun q => absurd q (by decide)⟩) (fun q => absurd q (by decide)) ?_ (fun m p q => q) (fun _ => by decide) (by decide) (by decide)
  · intro p c hc
    obtain ⟨-, rfl⟩ := Ytw_s hc
    exact ⟨⟨by decide, by decide, by decide⟩, by decide⟩
  · intro f p c o W T hc
    obtain ⟨hw, rfl⟩ := Ytw_s hc
    have hw14 : ¬ Yw b n p = e_n ((14 : Nat) : Nat) := by rw [hw]; decide
    rw [Zr_af, if_neg hw14, if_pos hw]
    rfl
  · intro q T hN ht
    exact ⟨fun _ => hN.1 (by decide), fun _ => hN.2.1 (by decide), fun _ => hN.2.2.1 (by decide), fun _ => hN.2.2.2.1 (by decide), fun _ => ht⟩
theorem exp_sim {b : Nat → Int32} {n : Nat} (hn : n ≤ 700) : ∀ d, SIM b n (fun m _ => m = (true, 0)) d 1 1 (Yexp b n (d + 1)) := by
  intro d
  induction d with
  | zero =>
    exact or_sim hn (and_sim hn (not_sim (test_sim (sum_sim hn (prod_sim hn (part_sim (fun d' h => absurd h (by omega)))))) 6 (by decide)))
  | succ d ih =>
    exact or_sim hn (and_sim hn (not_sim (test_sim (sum_sim hn (prod_sim hn (part_sim (fun d' h => by
      obtain rfl : d = d' := by omega
      exact ih))))) 6 (by decide)))
end S99zza
