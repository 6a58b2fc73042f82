/-! stay, close, spared: face to face -/
section S90
theorem e_min_n {a b : Nat} (ha : a < 1000) (hb : b < 1000) : e_min (e_n (a : Nat)) (e_n (b : Nat)) = e_n ((min a b : Nat) : Nat) := by
  unfold e_min
  by_cases h : b < a
  · rw [if_pos (by rw [e_n_ltN (by omega) (by omega)]; exact h), Nat.min_eq_right (by omega)]
  · rw [if_neg (by rw [e_n_ltN (by omega) (by omega)]; exact h), Nat.min_eq_left (by omega)]
def bet (D W : Int32) (k : Nat) : Bool := decide (¬ D = e_n (-1) ∧ ¬ W = e_n (-1) ∧ ¬ e_n (k : Nat) < W ∧ ¬ D + e_n (k : Nat) - W < e_n 10)
theorem F148 {d : Nat} {c1 : Int32} {I : Nat → Nat → Int32} {z : e_Z} {B : e_B} (H : Rel I z B) {x x2 : Int32} : Face d c1 I z 148 267 [.int x, .int x2] := by
  have wb := rel_wb H
  have wb2 : bPl B ≤ 8 := wb.2.1
  have wb4 : bPe B ≤ 9 := wb.2.2.2.1
  have hb := B2_bd z.2.1.1
  have hpc := (rel_bc H).2.2.2.1
  have hlc := (rel_bc H).2.1
  obtain ⟨t, ht, hd⟩ := rel_day H
  by_cases hm : x < 0 ∨ ¬ x < e_n (bPe B : Nat)
  · refine throw_p H ?_ ?_
    · refine (e_E_11 (d := d + 9) (y := 148) rfl).trans ?_
      show e_L (d + 9) 148 0 [.ref 1, .int x, .int x2, .null, .null, .null, .null] [] (mk I z) = _
      rw [C148_0, hpc, if_pos hm]; rfl
    · intro J z2 HJ
      refine ⟨e_n 0, e_E_ret (d := d + 9) ?_⟩
      show e_L (d + 9) 267 0 [.ref 489, .int x, .int x2, .null, .null] [] (mk J z2) = _
      rw [C267_0, c245n (RB_0 (rel_rb HJ)) K0 hm, e_rI_i, C267_10, if_pos (by decide)]
  by_cases hw : x2 < 0 ∨ ¬ x2 < e_n (bPl B : Nat)
  · refine throw_p H ?_ ?_
    · refine (e_E_11 (d := d + 9) (y := 148) rfl).trans ?_
      show e_L (d + 9) 148 0 [.ref 1, .int x, .int x2, .null, .null, .null, .null] [] (mk I z) = _
      rw [C148_0, hpc, if_neg hm, hlc, if_pos hw]; rfl
    · intro J z2 HJ
      refine ⟨e_n 0, e_E_ret (d := d + 9) ?_⟩
      show e_L (d + 9) 267 0 [.ref 489, .int x, .int x2, .null, .null] [] (mk J z2) = _
      rw [C267_0, c245y (RB_0 (rel_rb HJ)) K0 hm, e_rI_i, C267_10, if_neg (by decide), c244n (RB_0 (rel_rb HJ)) K0 hw, e_rI_i, C267_18, if_pos (by decide)]
  obtain ⟨p, hp, rfl⟩ := in_n (by omega) hm
  obtain ⟨a, ha, rfl⟩ := in_n (by omega) hw
  have hdb := and_bit (I 515 1) (show p < 32 by omega)
  have hde : I 51 2 = I 515 1 := (rel_mc H).2.2.1
  have hsb := shr_bit (I 515 1) (show p < 32 by omega)
  generalize hn : min 30 (60 - t) = n
  have hn30 : n ≤ 30 := by omega
  generalize hW : foS B (I 515) n 0 (4 + p) = W
  have i4 : (e_n 4 + e_n (p : Nat)).toNatClampNeg = 4 + p := ix (a := 4) (by omega)
  have g4 : InR (e_n 4 + e_n (p : Nat)) 34 := ixI (a := 4) (by omega) (by decide)
  have ga : InR (e_n (a : Nat)) 8 := InR_n (by omega) (by omega) (by omega)
  have ref : ∀ (J : Nat → Nat → Int32) (z2 : e_Z), Rel J z2 B → (∀ s, 489 ≤ s → J s = I s) → ∃ I2, e_L (d + 9) 267 0 [.ref 489, .int (e_n (p : Nat)), .int (e_n (a : Nat)), .null, .null] [] (mk J z2) = e_L (d + 9) 267 27 [.ref 489, .int (e_n (p : Nat)), .int (e_n (a : Nat)), .null, .null] [] (mk I2 z2) ∧ RfE J I2 ∧ I2 489 0 = e_n 0 ∧ I2 515 = I 515 ∧ I2 525 (4 + p) = W ∧ RB I2 B := by
    intro J z2 HJ hq
    obtain ⟨I2, b1, b2, b3, b4, b5, b6, b7, b8, b9⟩ := lkR (d := d + 2) (z := z2) (v := e_n 0) HJ (hq 515 (by decide)) ht hd
    rw [hn] at b2
    refine ⟨I2, ?_, b4, b5, b6, by rw [b2.1 _ (by omega), hW], b7⟩
    rw [C267_0, c245y (RB_0 (rel_rb HJ)) K0 hm, e_rI_i, C267_10, if_neg (by decide), c244y (RB_0 (rel_rb HJ)) K0 hw, e_rI_i, C267_18, if_neg (by decide), b1, e_rV_n]
  by_cases hdd : bt (I 515 1) p = true
  · refine face_rd H (r := .inl (e_n (-1))) (I1 := I) (zs_rf z) rfl (e_E_ret (d := d + 9) ?_) (fun _ _ => rfl) ?_
    · show e_L (d + 9) 148 0 [.ref 1, .int (e_n (p : Nat)), .int (e_n (a : Nat)), .null, .null, .null, .null] [] (mk I z) = _
      rw [C148_0, hpc, if_neg hm, hlc, if_neg hw, hde, if_neg (fun h => by have := hdb.mp h; rw [hdd] at this; cases this)]
    · intro J z2 HJ hq
      obtain ⟨I2, b1, b2, b3, b4, b5, b6⟩ := ref J z2 HJ hq
      refine ⟨I2, e_n (-1), e_E_ret (d := d + 9) (b1.trans ?_), b2, b3, rfl⟩
      rw [C267_27 g4 (fun _ => ga), b4, if_pos (hsb.mpr hdd)]
  have hd0 : bt (I 515 1) p = false := by simpa using hdd
  obtain ⟨I1, z1, a1, a2, a3, a4⟩ := c136h (d := d + 2) H ht hd hp
  rw [hn, hW] at a1
  have hsc := bd_cases z
  have hB1 : BrC I1 (bd z1.2.1.1) B := by
    rw [a4]; exact BrC_fr (fun k k1 k2 k3 k4 k5 => a2 _ (by unfold ScrC; omega)) (rel_bc H)
  have hda : I1 51 0 = e_n (t : Nat) := by rw [a2 51 (by unfold ScrC; omega), (rel_mc H).1]; exact hd
  have hmn : e_min (I1 51 0 + e_n 30) (e_n 60) = e_n ((t + n : Nat) : Nat) := by
    rw [hda, show e_n (t : Nat) + e_n 30 = e_n ((t + 30 : Nat) : Nat) from by rw [e_n_add]; congr 1, show (e_n 60) = e_n ((60 : Nat) : Nat) from rfl, e_min_n (by omega) (by omega)]
    congr 2; omega
  have hD : rd I1 (bd z1.2.1.1 + 2) (e_n (a : Nat)) = bR B 1 a := by rw [rd_N (by rw [lnb2 (B2_bd _)]; omega)]; exact hB1.2.2.2.2.2.2.1 a ha
  refine face_rd H (r := .inl (fi (bet (bR B 1 a) W) n t)) (I1 := I1) a3 a4 (e_E_ret (d := d + 9) ?_) a2 ?_
  · show e_L (d + 9) 148 0 [.ref 1, .int (e_n (p : Nat)), .int (e_n (a : Nat)), .null, .null, .null, .null] [] (mk I z) = _
    rw [C148_0, hpc, if_neg hm, hlc, if_neg hw, hde, if_pos (hdb.mpr hd0), a1, e_rI_i, C148_34, hmn, hda]
    have loop : ∀ k i, i + k = t + n → e_L (d + 9) 148 63 [.ref 1, .int (e_n (p : Nat)), .int (e_n (a : Nat)), .int W, .int (e_n (t : Nat)), .int (e_n ((t + n : Nat) : Nat)), .int (e_n (i : Nat))] [] (mk I1 z1) = some (.inl (some (.int (fi (bet (bR B 1 a) W) k i))), mk I1 z1) := by
      intro k
      induction k with
      | zero =>
        intro i hi
        rw [C148_63, if_neg (by rw [e_n_ltN (by omega) (by omega)]; omega)]; rfl
      | succ k ih =>
        intro i hi
        rw [C148_63, if_pos (by rw [e_n_ltN (by omega) (by omega)]; omega), hD]
        unfold fi
        by_cases hc : ¬ bR B 1 a = e_n (-1) ∧ ¬ W = e_n (-1) ∧ ¬ e_n (i : Nat) < W ∧ ¬ bR B 1 a + e_n (i : Nat) - W < e_n 10
        · rw [if_pos hc, if_pos (show bet (bR B 1 a) W i = true from decide_eq_true hc)]
        · rw [if_neg hc, if_neg (show ¬ bet (bR B 1 a) W i = true from fun h => hc (of_decide_eq_true h)), e_n_succ]
          exact ih (i + 1) (by omega)
    exact loop n t rfl
  · intro J z2 HJ hq
    obtain ⟨I2, b1, b2, b3, b4, b5, b6⟩ := ref J z2 HJ hq
    refine ⟨I2, fi (bet (bR B 1 a) W) n t, e_E_ret (d := d + 9) (b1.trans ?_), b2, b3, rfl⟩
    have hv : v236 I2 = e_n (n : Nat) := by rw [v236_n ht (by rw [b4]; exact hd), hn]
    have hDr : I2 490 (e_n (a : Nat)).toNatClampNeg = bR B 1 a := by rw [e_n_nat' (by omega)]; exact b6.2.2.2.2.2.2.2.1 a ha
    rw [C267_27 g4 (fun _ => ga), b4, if_neg (fun h => hdd (hsb.mp h)), hDr, i4, b5]
    by_cases h1 : bR B 1 a = e_n (-1)
    · rw [if_pos h1, fi_no (c := bet (bR B 1 a) W) n t (fun j _ _ => by unfold bet; exact decide_eq_false (fun h => h.1 h1))]
    rw [if_neg h1]
    by_cases h2 : W = e_n (-1)
    · rw [if_pos h2, fi_no (c := bet (bR B 1 a) W) n t (fun j _ _ => by unfold bet; exact decide_eq_false (fun h => h.2.1 h2))]
    rw [if_neg h2, hd]
    have loop : ∀ k i, i + k = t + n → e_L (d + 9) 267 72 [.ref 489, .int (e_n (p : Nat)), .int (e_n (a : Nat)), .int W, .int (e_n (i : Nat))] [] (mk I2 z2) = some (.inl (some (.int (fi (bet (bR B 1 a) W) k i))), mk I2 z2) := by
      intro k
      induction k with
      | zero =>
        intro i hi
        rw [C267_72 (fun h => absurd h (by rw [b4, hd, hv, e_n_add, show ((t : Nat) : Int) + (n : Nat) = ((t + n : Nat) : Int) by omega, e_n_ltN (by omega) (by omega)]; omega)), if_neg (by rw [b4, hd, hv, e_n_add, show ((t : Nat) : Int) + (n : Nat) = ((t + n : Nat) : Int) by omega, e_n_ltN (by omega) (by omega)]; omega)]; rfl
      | succ k ih =>
        intro i hi
        rw [C267_72 (fun _ _ => ga), if_pos (by rw [b4, hd, hv, e_n_add, show ((t : Nat) : Int) + (n : Nat) = ((t + n : Nat) : Int) by omega, e_n_ltN (by omega) (by omega)]; omega), hDr, e_n_succ]
        unfold fi
        by_cases h3 : e_n (i : Nat) < W
        · rw [if_pos h3, if_neg (show ¬ bet (bR B 1 a) W i = true from fun h => (of_decide_eq_true h).2.2.1 h3)]
          exact ih (i + 1) (by omega)
        · rw [if_neg h3]
          by_cases h4 : bR B 1 a + e_n (i : Nat) - W < e_n 10
          · rw [if_pos h4, if_neg (show ¬ bet (bR B 1 a) W i = true from fun h => (of_decide_eq_true h).2.2.2 h4)]
            exact ih (i + 1) (by omega)
          · rw [if_neg h4, if_pos (show bet (bR B 1 a) W i = true from decide_eq_true ⟨h1, h2, h3, h4⟩)]
    exact loop n t rfl
-- closed ahead of a morning
theorem itr_add {α : Type} (f : Nat → α → α) : ∀ a b i s, itr f (a + b) i s = itr f b (i + a) (itr f a i s)
  | 0, b, i, s => by rw [Nat.zero_add]; rfl
  | a + 1, b, i, s => by
    rw [show a + 1 + b = a + b + 1 by omega]
    show itr f (a + b) (i + 1) (f i s) = itr f b (i + (a + 1)) (itr f a (i + 1) (f i s))
    rw [itr_add f a b (i + 1) (f i s), show i + 1 + a = i + (a + 1) by omega]
def clS (B : e_B) (M : Nat → Int32) (n c : Nat) : e_T := if c < n then itr (moS B (e_n (-1))) (n - c) c (e_u (foS B M c) 0 3 (e_n 0)) else foS B M n
theorem hk_cl {sn : Int32} {c k : Nat} (hk : k < 1000) (hc : c < 1000) (S : e_T) : hkS (e_n (c : Nat)) sn (e_n (-1)) k S = if c = k then e_u S 0 3 (e_n 0) else S := by
  unfold hkS
  have h : ¬ e_n (-1) = e_n (k : Nat) := fun h => e_n_neg1 (by omega) h.symm
  rw [if_neg (fun q => h q.1)]
  by_cases hck : c = k
  · rw [if_pos (by rw [hck]), if_pos hck]
  · rw [if_neg (fun q => hck (by rw [e_n_inj (by omega) (by omega) (by omega) (by omega)] at q; omega)), if_neg hck]
theorem itr_cgr {α : Type} {f g : Nat → α → α} : ∀ n i s, (∀ j s, i ≤ j → j < i + n → f j s = g j s) → itr f n i s = itr g n i s
  | 0, _, _, _ => rfl
  | n + 1, i, s, h => by
    show itr f n (i + 1) (f i s) = itr g n (i + 1) (g i s)
    rw [h i s (Nat.le_refl _) (by omega)]
    exact itr_cgr n (i + 1) _ (fun j s h1 h2 => h j s (by omega) (by omega))
theorem rn_cl {B : e_B} {M : Nat → Int32} {sn : Int32} {n c : Nat} (hn : n ≤ 30) (hc : c ≤ 30) : itr (rn1 B (e_n (-1)) (e_n (c : Nat)) sn (e_n (-1))) n 0 (begS M) = clS B M n c := by
  unfold clS
  by_cases h : c < n
  · rw [if_pos h]
    obtain ⟨r, hr⟩ : ∃ r, n = c + (r + 1) := ⟨n - c - 1, by omega⟩
    have h1 : itr (rn1 B (e_n (-1)) (e_n (c : Nat)) sn (e_n (-1))) c 0 (begS M) = foS B M c := by
      unfold foS
      exact itr_cgr c 0 _ (fun j s _ hj => by unfold rn1; rw [hk_cl (by omega) (by omega), if_neg (by omega)])
    rw [hr, itr_add, h1, Nat.zero_add, show c + (r + 1) - c = r + 1 by omega]
    show itr _ r (c + 1) (rn1 B (e_n (-1)) (e_n (c : Nat)) sn (e_n (-1)) c (foS B M c)) = itr _ r (c + 1) (moS B (e_n (-1)) c (e_u (foS B M c) 0 3 (e_n 0)))
    rw [show rn1 B (e_n (-1)) (e_n (c : Nat)) sn (e_n (-1)) c (foS B M c) = moS B (e_n (-1)) c (e_u (foS B M c) 0 3 (e_n 0)) from by unfold rn1; rw [hk_cl (by omega) (by omega), if_pos rfl]]
    exact itr_cgr r (c + 1) _ (fun j s h1 h2 => by unfold rn1; rw [hk_cl (by omega) (by omega), if_neg (by omega)])
  · rw [if_neg h]
    unfold foS
    exact itr_cgr n 0 _ (fun j s _ hj => by unfold rn1; rw [hk_cl (by omega) (by omega), if_neg (by omega)])
theorem c144h {d t c : Nat} {I : Nat → Nat → Int32} {z : e_Z} {B : e_B} (H : Rel I z B) (ht : t ≤ 60) (hd : I 515 0 = e_n (t : Nat)) (hc : c ≤ 30) : ∃ I1, e_E (d + 7) 144 [.ref 1, .int (e_n (c : Nat))] (mk I z) = some (.inl (some (.int (clS B (I 515) (min 30 (60 - t)) c 0 1))), mk I1 (zF z z.2.1.1)) ∧ CfE z I I1 ∧ WS B (clS B (I 515) (min 30 (60 - t)) c) := by
  have wb := rel_wb H
  obtain ⟨J, a1, a2, a3, a4, a5, a6⟩ := c12h (d := d + 3) (z := z) (s := z.2.1.1) wb (rel_wm H) (rel_mc H)
  obtain ⟨I2, b1, b2, b3, b4, b5, b6⟩ := ahead (I := I) (J := e_u J 470 3 (e_n (c : Nat))) (d := d) (z := z) (many := 30) (sk := e_n (-1)) (cl := e_n (c : Nat)) (sn := e_n (-1)) (sm := e_n (-1)) wb (rel_wm H) (rel_bc H) (FC_fld (by decide) a2) (fun r hr => by rw [e_u_na (by omega)]; exact a6 r hr) (by omega) ht hd (fun i hi h => absurd h.symm (e_n_neg1 (by omega))) (by rw [e_u_ne (by decide)]; exact a4 2 (by decide) (by decide)) e_u_same (by rw [e_u_ne (by decide)]; exact a4 4 (by decide) (by decide)) (by rw [e_u_ne (by decide)]; exact a4 5 (by decide) (by decide))
  rw [rn_cl (by omega) hc] at b2 b3
  refine ⟨I2, e_E_ret (d := d + 6) ?_, fun r hr => b6 r (fun h => hr (by unfold ScrC; omega)) (fun h => hr (by unfold ScrC; omega)) (by unfold ScrC at hr; omega), b3⟩
  show e_L (d + 6) 144 0 [.ref 1, .int (e_n (c : Nat))] [] (mk I z) = _
  rw [C144_0, a1, e_rV_n, C144_18, show (e_n 30) = e_n ((30 : Nat) : Nat) from rfl, b1, e_rV_n, C144_35, b2.1.2.2.1]
theorem RF_open {I : Nat → Nat → Int32} {S : e_T} {T : Nat} {v : Int32} (h : RF I 525 S T) : RF (e_u I 525 3 v) 525 (e_u S 0 3 v) T := by
  obtain ⟨f1, f2, f3, f4, f5, f6, f7⟩ := h
  refine ⟨fun j hj => ?_, ?_, ?_, ?_, ?_, ?_, ?_⟩
  · rw [e_u_at, e_u_at, f1 j hj]
  · rw [e_u_na (by decide), e_u_na (by decide)]; exact f2
  · rw [e_u_na (by decide), e_u_na (by decide)]; exact f3
  · rw [e_u_na (by decide), e_u_na (by decide), e_u_na (by decide)]; exact f4
  · rw [e_u_na (by decide), e_u_na (by decide)]; exact f5
  · rw [e_u_na (by decide), e_u_na (by decide)]; exact f6
  · rw [e_u_na (by decide), e_u_na (by decide), e_u_na (by decide), e_u_na (by decide), e_u_na (by decide), e_u_na (by decide)]; exact f7
theorem WS_open {B : e_B} {S : e_T} (ws : WS B S) : WS B (e_u S 0 3 (e_n 0)) := by
  obtain ⟨wm, k, hk, hk9⟩ := ws
  refine ⟨wm_open wm, k, by rw [e_u_na (by decide)]; exact hk, ?_⟩
  rw [cnt_congr (g := fun q => decide (S 0 (4 + q) = e_n (-1))) (fun i hi => by rw [e_u_ne (show 4 + i ≠ 3 by omega)])]
  exact hk9
theorem Rel_K {J : Nat → Nat → Int32} {z : e_Z} {B : e_B} {v : Int32} (H : Rel J z B) : Rel (e_u J 489 0 v) z B := Rel_r rfl (fun r h1 _ => e_u_na h1) (fun j hj => e_u_ne (fun h => hj (by rw [h]; exact Or.inl rfl))) H
theorem c274h {d t c : Nat} {J : Nat → Nat → Int32} {z : e_Z} {B : e_B} {M : Nat → Int32} (H : Rel J z B) (hM : J 515 = M) (ht : t ≤ 60) (hd : M 0 = e_n (t : Nat)) (hc : c ≤ 30) : ∃ I2, e_E (d + 7) 274 [.ref 489, .int (e_n (c : Nat))] (mk J z) = some (.inl (some (.int (clS B M (min 30 (60 - t)) c 0 1))), mk I2 z) ∧ RfE J I2 ∧ I2 489 0 = J 489 0 ∧ I2 515 = M := by
  have wb := rel_wb H
  have wm : WM B M := by rw [← hM]; exact rel_wm H
  have rb := rel_rb H
  obtain ⟨I1, a1, a2, a3, a4⟩ := c235h (d := d + 4) (I := J) (z := z) (M := M) (fun j _ => by rw [hM])
  generalize hn : min 30 (60 - t) = n
  have hn30 : n ≤ 30 := by omega
  have hv : v236 I1 = e_n (n : Nat) := by rw [v236_n ht (by rw [a3 515 (by decide) (by decide) (by decide) (by decide), hM]; exact hd), hn]
  have hmin : (if e_n (c : Nat) < v236 I1 then e_n (c : Nat) else v236 I1) = e_n ((min c n : Nat) : Nat) := by
    rw [hv]
    by_cases h : c < n
    · rw [if_pos (by rw [e_n_ltN (by omega) (by omega)]; exact h), Nat.min_eq_left (by omega)]
    · rw [if_neg (by rw [e_n_ltN (by omega) (by omega)]; exact h), Nat.min_eq_right (by omega)]
  have ws0 : WS B (begS M) := ⟨wm, 0, rfl, by have := cnt_le (bPe B) (fun p => decide (begS M 0 (4 + p) = e_n (-1))); have : bPe B ≤ 9 := wb.2.2.2.1; omega⟩
  obtain ⟨I2, g1, g2, g3, g4, g5, g6⟩ := c237h (d := d) (r := 525) (f0 := 0) (m0 := min c n) (t := t) (tr := true) (z := z) (S := begS M) (sk := e_n (-1)) R2_525 wb (by omega) (by simp; omega) (by omega) (RB_fr (fun j _ _ => a4 j (by omega) (by omega)) (fun q q1 q2 => a3 q (by omega) (by omega) (by omega) (by omega)) rb) a2 ws0 (by rw [a4 61 (by decide) (by decide)]; exact H.2.2.2.1) hd
  have hfo : itr (moS B (e_n (-1))) (min c n) 0 (begS M) = foS B M (min c n) := rfl
  rw [hfo] at g2 g3 g4
  have fr2 : ∀ r, r ≠ 489 → ¬ ScrR r → I2 r = J r := fun r h1 h2 => by rw [g5 r (fun h => h2 (by unfold ScrR; omega)) h1 (fun h => h2 (by unfold ScrR; omega)) (fun h => h2 (by unfold ScrR; omega)) (fun h => h2 (by unfold ScrR; omega)) (fun h => h2 (by unfold ScrR; omega)) (fun h => h2 (by unfold ScrR; omega)) (fun h => h2 (by unfold ScrR; omega)) (fun h => h2 (by unfold ScrR; omega)) (fun h => h2 (by unfold ScrR; omega)), a3 r h1 (fun h => h2 (by unfold ScrR; omega)) (fun h => h2 (by unfold ScrR; omega)) (fun h => h2 (by unfold ScrR; omega))]
  have ff2 : ∀ j, j ≠ 60 → j ≠ 62 → I2 489 j = J 489 j := fun j h1 h2 => by rw [g6 j h1 h2, a4 j h1 h2]
  have hlt : (e_n (c : Nat) < e_n (n : Nat)) = (c < n) := e_n_ltN (by omega) (by omega)
  have s1 : e_L (d + 6) 274 0 [.ref 489, .int (e_n (c : Nat)), .null] [] (mk J z) = e_L (d + 6) 274 23 [.ref 489, .int (e_n (c : Nat)), .int (e_n (n : Nat))] [] (mk I2 z) := by
    rw [C274_0, a1, e_rV_n, C274_4, hmin, hv, show (e_n 0) = e_n ((0 : Nat) : Nat) from rfl, g1, e_rV_n]
  by_cases h : c < n
  · have hmc : min c n = c := by omega
    rw [hmc] at g2 g3 g4
    have hcl : clS B M n c = itr (moS B (e_n (-1))) (n - c) c (e_u (foS B M c) 0 3 (e_n 0)) := by unfold clS; rw [if_pos h]
    obtain ⟨I3, x1, x2, x3, x4, x5, x6⟩ := c237h (d := d) (r := 525) (f0 := c) (m0 := n - c) (t := t + c) (tr := true) (I := e_u I2 525 3 (e_n 0)) (z := z) (S := e_u (foS B M c) 0 3 (e_n 0)) (sk := e_n (-1)) R2_525 wb (by omega) (by simp; omega) (by omega) (RB_fr (fun j h1 h7 => by rw [e_u_na (by decide), ff2 j (by omega) (by omega)]) (fun q q1 q2 => by rw [e_u_na (by omega), fr2 q (by omega) (by unfold ScrR; omega)]) rb) (by simpa using RF_open g2) (WS_open g3) (by rw [e_u_na (by decide), ff2 61 (by decide) (by decide)]; exact H.2.2.2.1) (by rw [e_u_ne (by decide)]; exact g4)
    rw [← hcl] at x2
    refine ⟨I3, e_E_ret (d := d + 6) (s1.trans ?_), ⟨fun r h1 h2 => ?_, fun j hj => ?_⟩, ?_, ?_⟩
    · rw [C274_23, if_pos (hlt.mpr h), if_pos (hlt.mpr h), show e_n (n : Nat) - e_n (c : Nat) = e_n ((n - c : Nat) : Nat) from by rw [e_n_sub]; congr 1; omega, x1, e_rV_n, C274_52, x2.1 1 (by decide)]
    · rw [x5 r (fun h => h2 (by unfold ScrR; omega)) h1 (fun h => h2 (by unfold ScrR; omega)) (fun h => h2 (by unfold ScrR; omega)) (fun h => h2 (by unfold ScrR; omega)) (fun h => h2 (by unfold ScrR; omega)) (fun h => h2 (by unfold ScrR; omega)) (fun h => h2 (by unfold ScrR; omega)) (fun h => h2 (by unfold ScrR; omega)) (fun h => h2 (by unfold ScrR; omega)), e_u_na (fun h => h2 (by unfold ScrR; omega)), fr2 r h1 h2]
    · rw [x6 j (fun h => hj (by unfold ScrF; omega)) (fun h => hj (by unfold ScrF; omega)), e_u_na (by decide), ff2 j (fun h => hj (by unfold ScrF; omega)) (fun h => hj (by unfold ScrF; omega))]
    · rw [x6 0 (by decide) (by decide), e_u_na (by decide), ff2 0 (by decide) (by decide)]
    · rw [x5 515 (by decide) (by decide) (by decide) (by decide) (by decide) (by decide) (by decide) (by decide) (by decide) (by decide), e_u_na (by decide), fr2 515 (by decide) (by unfold ScrR; omega), hM]
  · have hmc : min c n = n := by omega
    rw [hmc] at g2
    have hcl : clS B M n c = foS B M n := by unfold clS; rw [if_neg h]
    rw [← hcl] at g2
    refine ⟨I2, e_E_ret (d := d + 6) (s1.trans ?_), ⟨fr2, fun j hj => ff2 j (fun h => hj (by unfold ScrF; omega)) (fun h => hj (by unfold ScrF; omega))⟩, ff2 0 (by decide) (by decide), by rw [fr2 515 (by decide) (by unfold ScrR; omega), hM]⟩
    rw [C274_23, if_neg (fun q => h (hlt.mp q)), if_neg (fun q => h (hlt.mp q)), g2.1 1 (by decide)]
end S90
