/-! faces that also say which exceptions may come -/
section S99s
def FaceX (ok : Nat → Prop) (d : Nat) (c1 : Int32) (I : Nat → Nat → Int32) (z : e_Z) (y y' : Nat) (as : List Value) : Prop :=
  ∃ r I1 z1, zs z z1 ∧ e_E (d + 10) y (.ref 1 :: as) (mk I z) = OutC r I1 z1 ∧ (∀ e, r = .inr e → ok e) ∧ ∀ z2 : e_Z, z2.2.1 = z1.2.1 → ∃ I2 B' b, e_E (d + 10) y' (.ref 489 :: as) (mk I1 z2) = some (.inl (some (.int b)), mk I2 z2) ∧ Rel I2 z2 B' ∧ RefO c1 r b (I2 489 0)
theorem face_rdX {ok : Nat → Prop} {d y y' : Nat} {c1 : Int32} {as : List Value} {I I1 : Nat → Nat → Int32} {z z1 : e_Z} {B : e_B} {r : Int32 ⊕ Nat} (H : Rel I z B) (hz : zs z z1) (hb : z1.2.1.1 = z.2.1.1) (hc : e_E (d + 10) y (.ref 1 :: as) (mk I z) = OutC r I1 z1) (hf : CfE z I I1)
    (hr : ∀ (J : Nat → Nat → Int32) (z2 : e_Z), Rel J z2 B → (∀ s, 489 ≤ s → J s = I s) → ∃ I2 b, e_E (d + 10) y' (.ref 489 :: as) (mk J z2) = some (.inl (some (.int b)), mk I2 z2) ∧ RfE J I2 ∧ RefO c1 r b (I2 489 0)) (hok : ∀ e, r = .inr e → ok e := by intro e h; cases h) : FaceX ok d c1 I z y y' as := by
  refine ⟨r, I1, z1, hz, hc, hok, fun z2 h2 => ?_⟩
  have HJ : Rel I1 z2 B := Rel_c (by rw [h2]; exact hb) hf H
  obtain ⟨I2, b, e1, e2, e3⟩ := hr I1 z2 HJ (fun s hs => hf s (by unfold ScrC; have := bd_cases z; omega))
  exact ⟨I2, B, b, e1, Rel_r rfl e2.1 e2.2 HJ, e3⟩
theorem throw_pX {ok : Nat → Prop} {d y y' : Nat} {c1 : Int32} {as : List Value} {I : Nat → Nat → Int32} {z : e_Z} {B : e_B} (h0 : ok 0) (H : Rel I z B) (hc : e_E (d + 10) y (.ref 1 :: as) (mk I z) = some (.inr 0, mk I (zx z)))
    (hr : ∀ (J : Nat → Nat → Int32) (z2 : e_Z), Rel J z2 B → ∃ b, e_E (d + 10) y' (.ref 489 :: as) (mk J z2) = some (.inl (some (.int b)), mk (e_u (e_u J 489 0 (e_n 0)) 489 0 (e_n 1)) z2)) : FaceX ok d c1 I z y y' as := by
  refine face_rdX H (r := .inr 0) (I1 := I) (zs_rf z) rfl hc (fun _ _ => rfl) ?_ (fun e h => by cases h; exact h0)
  intro J z2 HJ hq
  obtain ⟨b, hb⟩ := hr J z2 HJ
  exact ⟨_, b, hb, RfE_tr RfE_0 RfE_0, e_u_same⟩
theorem throw_qX {ok : Nat → Prop} {d y y' : Nat} {c1 : Int32} {as : List Value} {I : Nat → Nat → Int32} {z : e_Z} {B : e_B} (h0 : ok 1) (H : Rel I z B) (hc : e_E (d + 10) y (.ref 1 :: as) (mk I z) = some (.inr 1, mk I (zx z)))
    (hr : ∀ (J : Nat → Nat → Int32) (z2 : e_Z), Rel J z2 B → ∃ b, e_E (d + 10) y' (.ref 489 :: as) (mk J z2) = some (.inl (some (.int b)), mk (e_u (e_u J 489 0 (e_n 0)) 489 0 c1) z2)) : FaceX ok d c1 I z y y' as := by
  refine face_rdX H (r := .inr 1) (I1 := I) (zs_rf z) rfl hc (fun _ _ => rfl) ?_ (fun e h => by cases h; exact h0)
  intro J z2 HJ hq
  obtain ⟨b, hb⟩ := hr J z2 HJ
  exact ⟨_, b, hb, RfE_tr RfE_0 RfE_0, e_u_same⟩
theorem X139 {d : Nat} {I : Nat → Nat → Int32} {z : e_Z} {B : e_B} (H : Rel I z B) {x : Int32} : FaceX (fun e => e = 1) d (e_n 1) I z 139 260 [.int x] := by
  have wb := rel_wb H
  obtain ⟨t, ht, hd⟩ := rel_day H
  by_cases hm : x < 0
  · refine throw_qX (by decide) H ?_ ?_
    · refine (e_E_11 (d := d + 9) (y := 139) rfl).trans ?_
      show e_L (d + 9) 139 0 [.ref 1, .int x] [] (mk I z) = _
      rw [C139_0, if_pos hm]; rfl
    · intro J z2 HJ
      refine ⟨e_n 0, e_E_ret (d := d + 9) ?_⟩
      show e_L (d + 9) 260 0 [.ref 489, .int x] [] (mk J z2) = _
      rw [C260_0, right_n K0 (fun h => h hm) (by decide), e_rI_i, C260_19, if_pos (by decide)]
  obtain ⟨I1, a1, a2, a3, a4⟩ := lkC (d := d + 2) (z := z) H ht hd
  generalize hS : foS B (I 515) (min 30 (60 - t)) = S at a2 a3
  obtain ⟨k, hk9, hk⟩ := WS_4 a3
  have hkn : (S 4 0).toNatClampNeg = k := by rw [hk]; exact e_n_nat' (by omega)
  have hxk : x < S 4 0 → ∃ i : Nat, i < k ∧ x = e_n (i : Nat) := by
    intro h
    rw [hk] at h
    exact in_n (by omega) (fun q => q.elim hm (fun w => w h))
  refine face_rdX H (r := .inl (if x < S 4 0 then S 1 x.toNatClampNeg else e_n (-1))) (I1 := I1) (zs_F z) rfl (e_E_ret (d := d + 9) ?_) a4 ?_
  · show e_L (d + 9) 139 0 [.ref 1, .int x] [] (mk I z) = _
    rw [C139_0, if_neg hm, a1, e_rV_n, C139_19, a2.2.2.2.1]
    by_cases h : x < S 4 0
    · obtain ⟨i, hi, rfl⟩ := hxk h
      rw [if_pos h, if_pos h, rd_N (r := 476) (k := i) (Nat.lt_of_lt_of_le hi hk9), e_n_nat' (by omega), a2.2.2.2.2.1 i (by rw [hkn]; exact hi)]
    · rw [if_neg h, if_neg h]
  · intro J z2 HJ hq
    obtain ⟨I2, b1, b2, b3, b4, b5, b6, b7, b8, b9⟩ := lkR (d := d + 2) (z := z2) (v := e_n 0) HJ (hq 515 (by decide)) ht hd
    rw [hS] at b2
    refine ⟨I2, if x < S 4 0 then S 1 x.toNatClampNeg else e_n (-1), e_E_ret (d := d + 9) ?_, b4, b5, rfl⟩
    show e_L (d + 9) 260 0 [.ref 489, .int x] [] (mk J z2) = _
    rw [C260_0, right_y K0 hm, e_rI_i, C260_19, if_neg (by decide), b1, e_rV_n, C260_28 (fun h => by rw [b2.2.1] at h; obtain ⟨i, hi, rfl⟩ := hxk h; exact InR_n (by omega) (by omega) (by omega)), b2.2.1]
    by_cases h : x < S 4 0
    · obtain ⟨i, hi, rfl⟩ := hxk h
      rw [if_pos h, if_pos h, e_n_nat' (by omega), b2.2.2.2.1 i (by rw [hkn]; exact hi)]
    · rw [if_neg h, if_neg h]
theorem X140 {d : Nat} {I : Nat → Nat → Int32} {z : e_Z} {B : e_B} (H : Rel I z B) {x x2 : Int32} : FaceX (fun e => e ≤ 1) d (e_n 2) I z 140 261 [.int x, .int x2] := by
  have wb := rel_wb H
  have wb1 : bMa B ≤ 3 := wb.1
  have wb4 : bPe B ≤ 9 := wb.2.2.2.1
  have hmc := (rel_bc H).1
  obtain ⟨t, ht, hd⟩ := rel_day H
  by_cases hm : x < 0 ∨ ¬ x < e_n (bMa B : Nat)
  · refine throw_pX (by decide) H ?_ ?_
    · refine (e_E_11 (d := d + 9) (y := 140) rfl).trans ?_
      show e_L (d + 9) 140 0 [.ref 1, .int x, .int x2] [] (mk I z) = _
      rw [C140_0, hmc, if_pos hm]; rfl
    · intro J z2 HJ
      refine ⟨e_n 0, e_E_ret (d := d + 9) ?_⟩
      show e_L (d + 9) 261 0 [.ref 489, .int x, .int x2] [] (mk J z2) = _
      rw [C261_0, c243n (RB_0 (rel_rb HJ)) K0 hm, e_rI_i, C261_10, if_pos (by decide)]
  by_cases hw : x2 < 0 ∨ e_n 30 < x2
  · refine throw_qX (by decide) H ?_ ?_
    · refine (e_E_11 (d := d + 9) (y := 140) rfl).trans ?_
      show e_L (d + 9) 140 0 [.ref 1, .int x, .int x2] [] (mk I z) = _
      rw [C140_0, hmc, if_neg hm]
      by_cases h0 : x2 < 0
      · rw [if_pos h0]; rfl
      · rw [if_neg h0, if_pos (hw.resolve_left h0)]; rfl
    · intro J z2 HJ
      refine ⟨e_n 0, e_E_ret (d := d + 9) ?_⟩
      show e_L (d + 9) 261 0 [.ref 489, .int x, .int x2] [] (mk J z2) = _
      rw [C261_0, c243y (RB_0 (rel_rb HJ)) K0 hm, e_rI_i, C261_10, if_neg (by decide), right_n K0 (fun q => hw.elim q.1 q.2) (by decide), e_rI_i, C261_25, if_pos (by decide)]
  have hw0 : ¬ x2 < 0 := fun h => hw (Or.inl h)
  have hw30 : ¬ e_n 30 < x2 := fun h => hw (Or.inr h)
  obtain ⟨m, hmm, rfl⟩ := in_n (by omega) hm
  obtain ⟨n, hn, rfl⟩ := in_n (n := 31) (by decide) (x := x2) (fun h => h.elim hw0 (fun w => w (by rw [most_n (k := 30) (by decide)]; exact hw30)))
  have h3 : m < 3 := by omega
  obtain ⟨I1, a1, a2, a3, a4, a5, a6⟩ := c12h (d := d + 6) (z := z) (s := z.2.1.1) wb (rel_wm H) (rel_mc H)
  obtain ⟨I2, b1, b2, b3, b4, b5, b6⟩ := ahead (d := d + 3) (z := z) (many := n) (sk := e_n (-1)) (cl := e_n (-1)) (sn := e_n (-1)) (sm := e_n (-1)) wb (rel_wm H) (rel_bc H) a2 a6 (by omega) ht hd (fun i hi h => absurd h.symm (e_n_neg1 (by omega))) (a4 2 (by decide) (by decide)) (a4 3 (by decide) (by decide)) (a4 4 (by decide) (by decide)) (a4 5 (by decide) (by decide))
  rw [rn_mo _ _ _ _ _ _ (by omega)] at b2 b3
  have hfo : itr (moS B (e_n (-1))) (min n (60 - t)) 0 (begS (I 515)) = foS B (I 515) (min n (60 - t)) := rfl
  rw [hfo] at b2 b3
  generalize hS : foS B (I 515) (min n (60 - t)) = S at b2 b3
  refine face_rdX H (r := .inl (S 0 (31 + m))) (I1 := I2) (zs_F z) rfl (e_E_ret (d := d + 9) ?_) (fun r hr => b6 r (fun h => hr (by unfold ScrC; omega)) (fun h => hr (by unfold ScrC; omega)) (by unfold ScrC at hr; omega)) ?_
  · show e_L (d + 9) 140 0 [.ref 1, .int (e_n (m : Nat)), .int (e_n (n : Nat))] [] (mk I z) = _
    rw [C140_0, hmc, if_neg hm, if_neg hw0, if_neg hw30, a1, e_rV_n, C140_44, b1, e_rV_n, C140_52, rd_N (r := 475) (k := m) h3]
    exact congrArg (fun v => some (Sum.inl (some (Value.int v)), mk I2 (zF z z.2.1.1))) (b2.1.2.2.2.2.2.2.2 m hmm)
  · intro J z2 HJ hq
    have rb := RB_0 (v := e_n 0) (rel_rb HJ)
    have hM : ∀ j, j < 34 → e_u J 489 0 (e_n 0) 515 j = I 515 j := fun j _ => by rw [K515 (by decide), hq 515 (by decide)]
    obtain ⟨I3, c1, c2, c3, c4⟩ := c235h (d := d + 7) (I := e_u J 489 0 (e_n 0)) (z := z2) hM
    have hv : v236 I3 = e_n ((min 30 (60 - t) : Nat) : Nat) := v236_n ht (by rw [c3 515 (by decide) (by decide) (by decide) (by decide), hM 0 (by decide)]; exact hd)
    have hmin : (if e_n (n : Nat) < v236 I3 then e_n (n : Nat) else v236 I3) = e_n ((min n (60 - t) : Nat) : Nat) := by
      rw [hv]
      by_cases h : n < min 30 (60 - t)
      · rw [if_pos (by rw [e_n_ltN (by omega) (by omega)]; exact h)]; congr 2; omega
      · rw [if_neg (by rw [e_n_ltN (by omega) (by omega)]; exact h)]; congr 2; omega
    obtain ⟨I4, g1, g2, g3, g4, g5, g6⟩ := c237h (d := d + 3) (r := 525) (f0 := 0) (m0 := min n (60 - t)) (t := t) (tr := true) (z := z2) (S := begS (I 515)) (sk := e_n (-1)) R2_525 wb (by omega) (by simp; omega) (by omega) (RB_fr (fun j _ _ => c4 j (by omega) (by omega)) (fun q q1 q2 => c3 q (by omega) (by omega) (by omega) (by omega)) rb) c2 ⟨rel_wm H, 0, rfl, by have := cnt_le (bPe B) (fun p => decide (begS (I 515) 0 (4 + p) = e_n (-1))); omega⟩ (by rw [c4 61 (by decide) (by decide), e_u_ne (by decide)]; exact HJ.2.2.2.1) hd
    rw [hfo, hS] at g2
    refine ⟨I4, S 0 (31 + m), e_E_ret (d := d + 9) ?_, ⟨fun r h1 h2 => ?_, fun j hj => ?_⟩, ?_, rfl⟩
    · show e_L (d + 9) 261 0 [.ref 489, .int (e_n (m : Nat)), .int (e_n (n : Nat))] [] (mk J z2) = _
      rw [C261_0, c243y rb K0 hm, e_rI_i, C261_10, if_neg (by decide), right_y K0 ⟨hw0, hw30⟩, e_rI_i, C261_25, if_neg (by decide), c1, e_rV_n, C261_34, hmin, show (e_n 0) = e_n ((0 : Nat) : Nat) from rfl, g1, e_rV_n, C261_51 (ixI (a := 31) (by omega) (by decide)), show (e_n 31 + e_n (m : Nat)).toNatClampNeg = 31 + m from ix (a := 31) (by omega), g2.1 _ (by omega)]
    · rw [g5 r (fun h => h2 (by unfold ScrR; omega)) h1 (fun h => h2 (by unfold ScrR; omega)) (fun h => h2 (by unfold ScrR; omega)) (fun h => h2 (by unfold ScrR; omega)) (fun h => h2 (by unfold ScrR; omega)) (fun h => h2 (by unfold ScrR; omega)) (fun h => h2 (by unfold ScrR; omega)) (fun h => h2 (by unfold ScrR; omega)) (fun h => h2 (by unfold ScrR; omega)), c3 r h1 (fun h => h2 (by unfold ScrR; omega)) (fun h => h2 (by unfold ScrR; omega)) (fun h => h2 (by unfold ScrR; omega)), e_u_na h1]
    · rw [g6 j (fun h => hj (by unfold ScrF; omega)) (fun h => hj (by unfold ScrF; omega)), c4 j (fun h => hj (by unfold ScrF; omega)) (fun h => hj (by unfold ScrF; omega)), e_u_ne (fun h => hj (by unfold ScrF; omega))]
    · rw [g6 0 (by decide) (by decide), c4 0 (by decide) (by decide), e_u_same]
theorem X142 {d : Nat} {I : Nat → Nat → Int32} {z : e_Z} {B : e_B} (H : Rel I z B) {x : Int32} : FaceX (fun e => e = 1) d (e_n 1) I z 142 275 [.int x] := by
  have wb := rel_wb H
  obtain ⟨t, ht, hd⟩ := rel_day H
  by_cases hm : x < 0 ∨ e_n 9 < x
  · refine throw_qX (by decide) H ?_ ?_
    · refine (e_E_11 (d := d + 9) (y := 142) rfl).trans ?_
      show e_L (d + 9) 142 0 [.ref 1, .int x, .null, .null] [] (mk I z) = _
      rw [C142_0, if_pos hm]; rfl
    · intro J z2 HJ
      refine ⟨e_n 0, e_E_ret (d := d + 9) ?_⟩
      show e_L (d + 9) 275 0 [.ref 489, .int x, .null] [] (mk J z2) = _
      rw [C275_0, right_n K0 (fun q => hm.elim q.1 q.2) (by decide), e_rI_i, C275_17, if_pos (by decide)]
  generalize hn : min 30 (60 - t) = n
  have hn30 : n ≤ 30 := by omega
  have hda : I 51 0 = e_n (t : Nat) := by rw [(rel_mc H).1]; exact hd
  have hmn : e_min (e_n 30) (e_n 60 - I 51 0) = e_n (n : Nat) := by
    rw [hda, show e_n 60 - e_n (t : Nat) = e_n ((60 - t : Nat) : Nat) from by rw [e_n_sub]; congr 1; omega, show (e_n 30) = e_n ((30 : Nat) : Nat) from rfl, e_min_n (by omega) (by omega), hn]
  have cls : ∀ c, c ≤ n → ∀ (I' : Nat → Nat → Int32) (z' : e_Z), Rel I' z' B → I' 515 = I 515 → ∃ I1 z1, e_L (d + 9) 142 42 [.ref 1, .int x, .int (e_n (t : Nat)), .int (e_n (c : Nat))] [] (mk I' z') = some (.inl (some (.int (cloS B (I 515) x t n c))), mk I1 z1) ∧ CfE z' I' I1 ∧ zs z' z1 ∧ z1.2.1.1 = z'.2.1.1 := by
    intro c
    induction c with
    | zero =>
      intro hc I' z' H' hM
      obtain ⟨I1, a1, a2, a3⟩ := c144h (d := d + 2) (c := 0) H' ht (by rw [hM]; exact hd) (by omega)
      rw [hM, hn] at a1 a3
      refine ⟨I1, zF z' z'.2.1.1, ?_, a2, zs_F z', rfl⟩
      rw [C142_42, if_neg (by decide), a1, e_rI_i, C142_51, c329, e_rI_i, v329_bc (dead9 wb a3), C142_54]
      unfold cloS
      by_cases h : x < bc (clS B (I 515) n 0 0 1)
      · rw [if_pos h, if_pos h, C142_42, if_pos (by decide)]
      · rw [if_neg h, if_neg h, e_n_add]; rfl
    | succ c ih =>
      intro hc I' z' H' hM
      obtain ⟨I1, a1, a2, a3⟩ := c144h (d := d + 2) (c := c + 1) H' ht (by rw [hM]; exact hd) (by omega)
      rw [hM, hn] at a1 a3
      have hsc := bd_cases z'
      have H1 : Rel I1 (zF z' z'.2.1.1) B := Rel_c rfl a2 H'
      have hpos : ¬ e_n ((c + 1 : Nat) : Nat) < 0 := by rw [show (0 : Int32) = e_n ((0 : Nat) : Nat) from rfl, e_n_ltN (by omega) (by omega)]; omega
      rw [C142_42, if_neg hpos, a1, e_rI_i, C142_51, c329, e_rI_i, v329_bc (dead9 wb a3), C142_54]
      unfold cloS
      by_cases h : x < bc (clS B (I 515) n (c + 1) 0 1)
      · rw [if_pos h, if_pos h, show e_n ((c + 1 : Nat) : Nat) + e_n (-1) = e_n (c : Nat) from by rw [e_n_add]; congr 1; omega]
        obtain ⟨I2, z2, b1, b2, b3, b4⟩ := ih (by omega) I1 (zF z' z'.2.1.1) H1 (by rw [a2 515 (by unfold ScrC; omega)]; exact hM)
        exact ⟨I2, z2, b1, CfE_tr (z' := zF z' z'.2.1.1) rfl a2 b2, ⟨b3.1, b3.2⟩, b4⟩
      · rw [if_neg h, if_neg h]
        refine ⟨I1, zF z' z'.2.1.1, ?_, a2, zs_F z', rfl⟩
        rw [e_n_add]; congr 5
  obtain ⟨I1, z1, a1, a2, a3, a4⟩ := cls n (Nat.le_refl _) I z H rfl
  refine face_rdX H (r := .inl (cloS B (I 515) x t n n)) (I1 := I1) a3 a4 (e_E_ret (d := d + 9) ?_) a2 ?_
  · show e_L (d + 9) 142 0 [.ref 1, .int x, .null, .null] [] (mk I z) = _
    rw [C142_0, if_neg hm, hmn, hda]
    exact a1
  · intro J z2 HJ hq
    have hK : e_u J 489 0 (e_n 0) 515 = I 515 := by rw [K515 (by decide), hq 515 (by decide)]
    have rfs : ∀ c, c ≤ n → ∀ J' : Nat → Nat → Int32, Rel J' z2 B → J' 515 = I 515 → ∃ I2, e_L (d + 9) 275 27 [.ref 489, .int x, .int (e_n (c : Nat))] [] (mk J' z2) = some (.inl (some (.int (cloS B (I 515) x t n c))), mk I2 z2) ∧ RfE J' I2 ∧ I2 489 0 = J' 489 0 := by
      intro c
      induction c with
      | zero =>
        intro hc J' H' hM
        obtain ⟨I2, b1, b2, b3, b4⟩ := c274h (d := d + 2) (c := 0) (M := I 515) H' hM ht hd (by omega)
        rw [hn] at b1
        refine ⟨I2, ?_, b2, b3⟩
        rw [C275_27, if_neg (by decide), b1, e_rI_i, C275_36, v181_bc, b4, hd]
        unfold cloS
        by_cases h : x < bc (clS B (I 515) n 0 0 1)
        · rw [if_pos h, if_pos h, C275_27, if_pos (by decide)]
        · rw [if_neg h, if_neg h, e_n_add]; rfl
      | succ c ih =>
        intro hc J' H' hM
        obtain ⟨I2, b1, b2, b3, b4⟩ := c274h (d := d + 2) (c := c + 1) (M := I 515) H' hM ht hd (by omega)
        rw [hn] at b1
        have hpos : ¬ e_n ((c + 1 : Nat) : Nat) < 0 := by rw [show (0 : Int32) = e_n ((0 : Nat) : Nat) from rfl, e_n_ltN (by omega) (by omega)]; omega
        rw [C275_27, if_neg hpos, b1, e_rI_i, C275_36, v181_bc, b4, hd]
        unfold cloS
        by_cases h : x < bc (clS B (I 515) n (c + 1) 0 1)
        · rw [if_pos h, if_pos h, show e_n ((c + 1 : Nat) : Nat) + e_n (-1) = e_n (c : Nat) from by rw [e_n_add]; congr 1; omega]
          obtain ⟨I3, g1, g2, g3⟩ := ih (by omega) I2 (Rel_r rfl b2.1 b2.2 H') b4
          exact ⟨I3, g1, RfE_tr b2 g2, by rw [g3, b3]⟩
        · rw [if_neg h, if_neg h]
          refine ⟨I2, ?_, b2, b3⟩
          rw [e_n_add]; congr 5
    obtain ⟨I2, b1, b2, b3⟩ := rfs n (Nat.le_refl _) (e_u J 489 0 (e_n 0)) (Rel_K HJ) hK
    have hv : v236 (e_u J 489 0 (e_n 0)) = e_n (n : Nat) := by rw [v236_n ht (by rw [hK]; exact hd), hn]
    refine ⟨I2, cloS B (I 515) x t n n, e_E_ret (d := d + 9) ?_, RfE_tr RfE_0 b2, by rw [b3, e_u_same], rfl⟩
    show e_L (d + 9) 275 0 [.ref 489, .int x, .null] [] (mk J z2) = _
    rw [C275_0, right_y K0 ⟨fun h => hm (Or.inl h), fun h => hm (Or.inr h)⟩, e_rI_i, C275_17, if_neg (by decide), hv]
    exact b1
theorem X151 {d : Nat} {I : Nat → Nat → Int32} {z : e_Z} {B : e_B} (H : Rel I z B) {x x2 : Int32} : FaceX (fun e => e ≤ 1) d (e_n 2) I z 151 273 [.int x, .int x2] := by
  have wb := rel_wb H
  have wb2 : bPl B ≤ 8 := wb.2.1
  have wb3 : bWy B ≤ 12 := wb.2.2.1
  have wb4 : bPe B ≤ 9 := wb.2.2.2.1
  have hpc := (rel_bc H).2.2.2.1
  obtain ⟨t, ht, hd⟩ := rel_day H
  by_cases hm : x < 0 ∨ ¬ x < e_n (bPe B : Nat)
  · refine throw_pX (by decide) H ?_ ?_
    · refine (e_E_11 (d := d + 9) (y := 151) rfl).trans ?_
      show e_L (d + 9) 151 0 [.ref 1, .int x, .int x2] [] (mk I z) = _
      rw [C151_0, hpc, if_pos hm]; rfl
    · intro J z2 HJ
      refine ⟨e_n 0, e_E_ret (d := d + 9) ?_⟩
      show e_L (d + 9) 273 0 [.ref 489, .int x, .int x2, .null, .null, .null, .null] [] (mk J z2) = _
      rw [C273_0, c245n (RB_0 (rel_rb HJ)) K0 hm, e_rI_i, C273_10, if_pos (by decide)]
  by_cases hw : x2 < e_n 1 ∨ e_n 9 < x2
  · refine throw_qX (by decide) H ?_ ?_
    · refine (e_E_11 (d := d + 9) (y := 151) rfl).trans ?_
      show e_L (d + 9) 151 0 [.ref 1, .int x, .int x2] [] (mk I z) = _
      rw [C151_0, hpc, if_neg hm]
      by_cases h0 : x2 < e_n 1
      · rw [if_pos h0]; rfl
      · rw [if_neg h0, if_pos (hw.resolve_left h0)]; rfl
    · intro J z2 HJ
      refine ⟨e_n 0, e_E_ret (d := d + 9) ?_⟩
      show e_L (d + 9) 273 0 [.ref 489, .int x, .int x2, .null, .null, .null, .null] [] (mk J z2) = _
      rw [C273_0, c245y (RB_0 (rel_rb HJ)) K0 hm, e_rI_i, C273_10, if_neg (by decide), right_n K0 (fun q => hw.elim q.1 q.2) (by decide), e_rI_i, C273_25, if_pos (by decide)]
  obtain ⟨p, hp, rfl⟩ := in_n (by omega) hm
  have hw1 : ¬ x2 < e_n 1 := fun h => hw (Or.inl h)
  have hw9 : ¬ e_n 9 < x2 := fun h => hw (Or.inr h)
  obtain ⟨N, hN1, hN9, rfl⟩ : ∃ N : Nat, 1 ≤ N ∧ N ≤ 9 ∧ x2 = e_n (N : Nat) := by
    obtain ⟨a, h1, h2, rfl⟩ := e_n_toI x2
    rw [e_n_lt (by omega) (by omega) (by omega) (by omega)] at hw1
    rw [e_n_lt (by omega) (by omega) (by omega) (by omega)] at hw9
    exact ⟨a.toNat, by omega, by omega, by congr 1; omega⟩
  have hdb := and_bit (I 515 1) (show p < 32 by omega)
  have hsb := shr_bit (I 515 1) (show p < 32 by omega)
  have hde : I 51 2 = I 515 1 := (rel_mc H).2.2.1
  have h9 : p < 9 := by omega
  by_cases hdd : bt (I 515 1) p = true
  · refine face_rdX H (r := .inl (e_n 0)) (I1 := I) (zs_rf z) rfl (e_E_ret (d := d + 9) ?_) (fun _ _ => rfl) ?_
    · show e_L (d + 9) 151 0 [.ref 1, .int (e_n (p : Nat)), .int (e_n (N : Nat))] [] (mk I z) = _
      rw [C151_0, hpc, if_neg hm, if_neg hw1, if_neg hw9, hde, if_neg (fun h => by have := hdb.mp h; rw [hdd] at this; cases this)]
    · intro J z2 HJ hq
      refine ⟨e_u J 489 0 (e_n 0), e_n 0, e_E_ret (d := d + 9) ?_, RfE_0, K0, rfl⟩
      show e_L (d + 9) 273 0 [.ref 489, .int (e_n (p : Nat)), .int (e_n (N : Nat)), .null, .null, .null, .null] [] (mk J z2) = _
      have hK : e_u J 489 0 (e_n 0) 515 = I 515 := by rw [K515 (by decide), hq 515 (by decide)]
      rw [C273_0, c245y (RB_0 (rel_rb HJ)) K0 hm, e_rI_i, C273_10, if_neg (by decide), right_y K0 ⟨hw1, hw9⟩, e_rI_i, C273_25, if_neg (by decide), hK, if_pos (hsb.mpr hdd)]
  have hd0 : bt (I 515 1) p = false := by simpa using hdd
  generalize hn : min 30 (60 - t) = n
  obtain ⟨pl, hpl, hat⟩ := (rel_wm H).2.1 p hp
  obtain ⟨I1, z1, a1, a2, a3, a4⟩ := c136h (d := d + 2) H ht hd hp
  rw [hn] at a1
  generalize hW : foS B (I 515) n 0 (4 + p) = W at a1
  have hsc := bd_cases z
  have hB1 : BrC I1 (bd z1.2.1.1) B := by
    rw [a4]; exact BrC_fr (fun k k1 k2 k3 k4 k5 => a2 _ (by unfold ScrC; omega)) (rel_bc H)
  have hda : I 51 0 = e_n (t : Nat) := by rw [(rel_mc H).1]; exact hd
  have hwh : rd I 54 (e_n (p : Nat)) = e_n (pl : Nat) := by
    rw [rd_N (r := 54) (k := p) h9, ← hat]; exact ((rel_mc H).2.2.2.2.2.1 p hp).2.2
  have i4 : (e_n 4 + e_n (p : Nat)).toNatClampNeg = 4 + p := ix (a := 4) (by omega)
  have g4 : InR (e_n 4 + e_n (p : Nat)) 34 := ixI (a := 4) (by omega) (by decide)
  have i22 : (e_n 22 + e_n (p : Nat)).toNatClampNeg = 22 + p := ix (a := 22) (by omega)
  have g22 : InR (e_n 22 + e_n (p : Nat)) 34 := ixI (a := 22) (by omega) (by decide)
  obtain ⟨I2, x1, x2⟩ := c36h (d := d + 4) (I := I1) (z := z1) (W := W) (B2_bd _) wb hB1 ht hN1 hN9 hpl
  refine face_rdX H (r := .inl (e_n (GS B W N t pl : Nat))) (I1 := I2) a3 a4 (e_E_ret (d := d + 9) ?_) (fun r hr => by rw [x2 r (by rw [a4]; exact fun h => hr (by unfold ScrC; omega)) (by rw [a4]; exact fun h => hr (by unfold ScrC; omega)), a2 r hr]) ?_
  · show e_L (d + 9) 151 0 [.ref 1, .int (e_n (p : Nat)), .int (e_n (N : Nat))] [] (mk I z) = _
    rw [C151_0, hpc, if_neg hm, if_neg hw1, if_neg hw9, hde, if_pos (hdb.mpr hd0), a1, e_rI_i, hda, hwh, ← a4, C151_83, x1, e_rI_i, C151_86]
  · intro J z2 HJ hq
    obtain ⟨R, b1, b2, b3, b4, b5, b6, b7, b8, b9⟩ := lkR (d := d + 2) (z := z2) (v := e_n 0) HJ (hq 515 (by decide)) ht hd
    rw [hn] at b2
    have hK : e_u J 489 0 (e_n 0) 515 = I 515 := by rw [K515 (by decide), hq 515 (by decide)]
    have hplc : R 489 2 = e_n (bPl B : Nat) := b7.2.1
    have hwyc : R 489 3 = e_n (bWy B : Nat) := b7.2.2.1
    have hways := b7.2.2.2.2.2.2.2.2.1
    have hdg := b7.2.2.2.2.2.2.2.1
    have FSlt : ∀ k a, k ≤ 9 → FS B W t pl k a < 2147483648 := fun k a hk => Nat.lt_of_le_of_lt (Nat.le_trans (FS_le k a) (pow9 hk)) (by decide)
    -- where one is
    have l0 : ∀ k a (K : Nat → Nat → Int32), a + k = 8 → (∀ i, i < a → K 529 i = e_n (FS B W t pl 0 i : Nat)) → (∀ r, r ≠ 529 → r ≠ 530 → K r = R r) → ∃ K', e_L (d + 9) 273 59 [.ref 489, .int (e_n (p : Nat)), .int (e_n (N : Nat)), .int W, .int (e_n (a : Nat)), .null, .null] [] (mk K z2) = e_L (d + 9) 273 106 [.ref 489, .int (e_n (p : Nat)), .int (e_n (N : Nat)), .int W, .int (e_n (t : Nat)), .null, .null] [] (mk K' z2) ∧ (∀ i, i < bPl B → K' 529 i = e_n (FS B W t pl 0 i : Nat)) ∧ ∀ r, r ≠ 529 → r ≠ 530 → K' r = R r := by
      intro k
      induction k with
      | zero =>
        intro a K ha hKf hr
        have : a = 8 := by omega
        subst this
        refine ⟨K, ?_, fun i hi => hKf i (by omega), hr⟩
        rw [C273_59 (fun h => absurd h (by decide)) (fun h => absurd h (by decide)) (fun h => absurd h (by decide)), if_neg (by decide), hr 515 (by decide) (by decide), b6, hd]
      | succ k ih =>
        intro a K ha hKf hr
        obtain ⟨K', e1, e2, e3⟩ := ih (a + 1) (e_u K 529 a (e_n (FS B W t pl 0 a : Nat))) (by omega) (fun i hi => by
          rw [e_u_at]
          by_cases hia : i = a
          · rw [if_pos hia, hia]
          · rw [if_neg hia]; exact hKf i (by omega)) (fun r h1 h2 => by rw [e_u_na h1]; exact hr r h1 h2)
        refine ⟨K', ?_, e2, e3⟩
        have ga : InR (e_n (a : Nat)) 8 := InR_n (by omega) (by omega) (by omega)
        have hv : tf (e_n (a : Nat) = e_n (pl : Nat)) = e_n (FS B W t pl 0 a : Nat) := by
          unfold tf FS
          by_cases hap : a = pl
          · rw [if_pos (by rw [hap]), if_pos hap]; rfl
          · rw [if_neg (fun q => hap (by rw [e_n_inj (by omega) (by omega) (by omega) (by omega)] at q; omega)), if_neg hap]; rfl
        rw [C273_59 (fun _ => g22) (fun _ _ => ga) (fun _ _ => ga), if_pos (by rw [show (e_n 8) = e_n ((8 : Nat) : Nat) from rfl, e_n_ltN (by omega) (by omega)]; omega), i22, hr 515 (by decide) (by decide), b6, hat, hv, e_n_nat' (by omega), e_n_succ]
        exact e1
    -- a copy
    have lc : ∀ (F : Nat → Nat) (D : Nat) (u6 : Value), ∀ k a (K : Nat → Nat → Int32), a + k = bPl B → (∀ i, i < bPl B → K 529 i = e_n (F i : Nat)) → (∀ i, i < a → K 530 i = e_n (F i : Nat)) → (∀ r, r ≠ 529 → r ≠ 530 → K r = R r) → ∃ K', e_L (d + 9) 273 122 [.ref 489, .int (e_n (p : Nat)), .int (e_n (N : Nat)), .int W, .int (e_n (D : Nat)), .int (e_n (a : Nat)), u6] [] (mk K z2) = e_L (d + 9) 273 154 [.ref 489, .int (e_n (p : Nat)), .int (e_n (N : Nat)), .int W, .int (e_n (D : Nat)), .int (e_n 0), u6] [] (mk K' z2) ∧ (∀ i, i < bPl B → K' 529 i = e_n (F i : Nat)) ∧ (∀ i, i < bPl B → K' 530 i = e_n (F i : Nat)) ∧ ∀ r, r ≠ 529 → r ≠ 530 → K' r = R r := by
      intro F D u6 k
      induction k with
      | zero =>
        intro a K ha h29 h30 hr
        refine ⟨K, ?_, h29, fun i hi => h30 i (by omega), hr⟩
        rw [C273_122 (fun h => absurd h (by rw [hr 489 (by decide) (by decide), hplc, e_n_ltN (by omega) (by omega)]; omega)), hr 489 (by decide) (by decide), hplc, if_neg (by rw [e_n_ltN (by omega) (by omega)]; omega)]
      | succ k ih =>
        intro a K ha h29 h30 hr
        obtain ⟨K', e1, e2, e3, e4⟩ := ih (a + 1) (e_u K 530 a (e_n (F a : Nat))) (by omega) (fun i hi => by rw [e_u_na (by decide)]; exact h29 i hi) (fun i hi => by
          rw [e_u_at]
          by_cases hia : i = a
          · rw [if_pos hia, hia]
          · rw [if_neg hia]; exact h30 i (by omega)) (fun r h1 h2 => by rw [e_u_na h2]; exact hr r h1 h2)
        refine ⟨K', ?_, e2, e3, e4⟩
        rw [C273_122 (fun _ => InR_n (by omega) (by omega) (by omega)), hr 489 (by decide) (by decide), hplc, if_pos (by rw [e_n_ltN (by omega) (by omega)]; omega), e_n_nat' (by omega), h29 a (by omega), e_n_succ]
        exact e1
    -- the ways
    have lw : ∀ (F : Nat → Nat) (D : Nat) (u6 : Value), (∀ c, F c < 2147483648) → ∀ k w (K : Nat → Nat → Int32) (u : Nat → Nat), w + k = bWy B → (∀ i, i < bPl B → K 529 i = e_n (F i : Nat)) → (∀ i, i < bPl B → K 530 i = e_n (u i : Nat)) → (∀ c, u c < 2147483648) → PU (bPl B) F (edW B D w) u → (∀ r, r ≠ 529 → r ≠ 530 → K r = R r) → ∃ K' u', e_L (d + 9) 273 154 [.ref 489, .int (e_n (p : Nat)), .int (e_n (N : Nat)), .int W, .int (e_n (D : Nat)), .int (e_n (w : Nat)), u6] [] (mk K z2) = e_L (d + 9) 273 240 [.ref 489, .int (e_n (p : Nat)), .int (e_n (N : Nat)), .int W, .int (e_n (D : Nat)), .int (tf (¬ W = e_n (-1) ∧ ¬ e_n (D : Nat) < W)), .int (e_n 0)] [] (mk K' z2) ∧ (∀ i, i < bPl B → K' 529 i = e_n (F i : Nat)) ∧ (∀ i, i < bPl B → K' 530 i = e_n (u' i : Nat)) ∧ PU (bPl B) F (edW B D (bWy B)) u' ∧ ∀ r, r ≠ 529 → r ≠ 530 → K' r = R r := by
      intro F D u6 hF2 k
      induction k with
      | zero =>
        intro w K u hw h29 h30 hu2 hP hr
        have : w = bWy B := by omega
        subst this
        refine ⟨K, u, ?_, h29, h30, hP, hr⟩
        rw [C273_154, hr 489 (by decide) (by decide), hwyc, if_neg (by rw [e_n_ltN (by omega) (by omega)]; omega)]
      | succ k ih =>
        intro w K u hw h29 h30 hu2 hP hr
        have hwb : w < bWy B := by omega
        obtain ⟨wa1, wa2⟩ := wA_n wb hwb
        obtain ⟨wz1, wz2⟩ := wZ_n wb hwb
        have w491 : ∀ K : Nat → Nat → Int32, (∀ r, r ≠ 529 → r ≠ 530 → K r = R r) → K 491 w = e_n (wA B w : Nat) ∧ K 492 w = e_n (wZ B w : Nat) := fun K hr => ⟨by rw [hr 491 (by decide) (by decide), (hways w hwb).1, wa2], by rw [hr 492 (by decide) (by decide), (hways w hwb).2.1, wz2]⟩
        have gw : InR (e_n (w : Nat)) 12 := InR_n (by omega) (by omega) (by omega)
        have h69 : K 489 69 = e_n (-1) := by rw [hr 489 (by decide) (by decide)]; exact b9
        have w493 : K 493 w = bR B 4 w := by rw [hr 493 (by decide) (by decide), (hways w hwb).2.2]
        rw [C273_154, hr 489 (by decide) (by decide), hwyc, if_pos (by rw [e_n_ltN (by omega) (by omega)]; omega), c253 (fun _ => gw), e_rI_i, h69, e_n_nat' (show w < 2147483648 by omega), w493, C273_171 (fun _ => gw), e_n_nat' (show w < 2147483648 by omega), (w491 K hr).1, (w491 K hr).2, e_n_succ]
        by_cases hpp : pas B (e_n (D : Nat)) (e_n (-1)) w
        · have htf : ¬ tf (e_n (w : Nat) = e_n (-1) ∨ e_n (D : Nat) < bR B 4 w) = 0 := by rw [tf_eq0]; exact fun q => q hpp
          have rbK : ∀ K : Nat → Nat → Int32, (∀ r, r ≠ 529 → r ≠ 530 → K r = R r) → RB K B := fun K hr => RB_fr (fun k _ _ => by rw [hr 489 (by decide) (by decide)]) (fun r h1 h2 => hr r (by omega) (by omega)) b7
          obtain ⟨K1, e1, e2, e3⟩ := c272h (d := d + 8) (z := z2) (a := wA B w) (b := wZ B w) wb2 (rbK K hr) wa1 wz1 h29 h30 hF2 (hu2 _)
          have r1 : ∀ r, r ≠ 529 → r ≠ 530 → K1 r = R r := fun r h1 h2 => by rw [e3 r h2, hr r h1 h2]
          obtain ⟨K2, f1, f2, f3⟩ := c272h (d := d + 8) (z := z2) (a := wZ B w) (b := wA B w) (u := upU F (bR B 1 (wA B w) = e_n (-1)) (wA B w) (wZ B w) u) wb2 (rbK K1 r1) wz1 wa1 (fun c hc => by rw [e3 529 (by decide)]; exact h29 c hc) e2 hF2 (upU_lt hF2 hu2)
          have r2 : ∀ r, r ≠ 529 → r ≠ 530 → K2 r = R r := fun r h1 h2 => by rw [f3 r h2, r1 r h1 h2]
          obtain ⟨K3, u3, g1, g2, g3, g4', g5⟩ := ih (w + 1) K2 (upU F (bR B 1 (wZ B w) = e_n (-1)) (wZ B w) (wA B w) (upU F (bR B 1 (wA B w) = e_n (-1)) (wA B w) (wZ B w) u)) (by omega) (fun i hi => by rw [f3 529 (by decide), e3 529 (by decide)]; exact h29 i hi) f2 (fun c => upU_lt hF2 (fun c => upU_lt hF2 hu2)) (PU_cg (fun a b => by
            unfold edW
            constructor
            · rintro ((h | ⟨rfl, rfl, hs⟩) | ⟨rfl, rfl, hs⟩)
              · rcases h with h | ⟨h1, v, hv, h2⟩
                · exact Or.inl h
                · exact Or.inr ⟨h1, v, by omega, h2⟩
              · exact Or.inr ⟨hs, w, by omega, hpp, Or.inl ⟨rfl, rfl⟩⟩
              · exact Or.inr ⟨hs, w, by omega, hpp, Or.inr ⟨rfl, rfl⟩⟩
            · rintro (h | ⟨h1, v, hv, h2, h3⟩)
              · exact Or.inl (Or.inl (Or.inl h))
              · by_cases hvw : v = w
                · subst hvw
                  rcases h3 with ⟨h4, h5⟩ | ⟨h4, h5⟩
                  · exact Or.inl (Or.inr ⟨h4.symm, h5, by rw [h4]; exact h1⟩)
                  · exact Or.inr ⟨h4.symm, h5, by rw [h4]; exact h1⟩
                · exact Or.inl (Or.inl (Or.inr ⟨h1, v, by omega, h2, h3⟩))) (PU_add (s := bR B 1 (wZ B w) = e_n (-1)) (b := wA B w) wz1 (PU_add (s := bR B 1 (wA B w) = e_n (-1)) (b := wZ B w) wa1 hP))) r2
          refine ⟨K3, u3, ?_, g2, g3, g4', g5⟩
          rw [if_neg htf, e1, e_rV_n, C273_195 gw, e_n_nat' (show w < 2147483648 by omega), (w491 K1 r1).1, (w491 K1 r1).2, f1, e_rV_n, C273_213, e_n_succ]
          exact g1
        · have htf : tf (e_n (w : Nat) = e_n (-1) ∨ e_n (D : Nat) < bR B 4 w) = 0 := by rw [tf_eq0]; exact hpp
          obtain ⟨K3, u3, g1, g2, g3, g4', g5⟩ := ih (w + 1) K u (by omega) h29 h30 hu2 (PU_cg (fun a b => by
            unfold edW
            constructor
            · rintro (h | ⟨h1, v, hv, h2⟩)
              · exact Or.inl h
              · exact Or.inr ⟨h1, v, by omega, h2⟩
            · rintro (h | ⟨h1, v, hv, h2, h3⟩)
              · exact Or.inl h
              · by_cases hvw : v = w
                · rw [hvw] at h2; exact absurd h2 hpp
                · exact Or.inr ⟨h1, v, by omega, h2, h3⟩) hP) hr
          refine ⟨K3, u3, ?_, g2, g3, g4', g5⟩
          rw [if_pos htf]
          exact g1
    -- a morning's chances
    have lm2 : ∀ (D kk : Nat) (u : Nat → Nat), D = t + kk → (∀ i, i < bPl B → u i = mx (bPl B) (fun a => if edS B D a i then FS B W t pl kk a else 0)) → ∀ k a (K : Nat → Nat → Int32), a + k = bPl B → (∀ i, i < bPl B → K 530 i = e_n (u i : Nat)) → (∀ i, i < a → K 529 i = e_n (FS B W t pl (kk + 1) i : Nat)) → (∀ r, r ≠ 529 → r ≠ 530 → K r = R r) → ∃ K', e_L (d + 9) 273 240 [.ref 489, .int (e_n (p : Nat)), .int (e_n (N : Nat)), .int W, .int (e_n (D : Nat)), .int (tf (¬ W = e_n (-1) ∧ ¬ e_n (D : Nat) < W)), .int (e_n (a : Nat))] [] (mk K z2) = e_L (d + 9) 273 106 [.ref 489, .int (e_n (p : Nat)), .int (e_n (N : Nat)), .int W, .int (e_n ((D + 1 : Nat) : Nat)), .int (tf (¬ W = e_n (-1) ∧ ¬ e_n (D : Nat) < W)), .int (e_n (bPl B : Nat))] [] (mk K' z2) ∧ (∀ i, i < bPl B → K' 529 i = e_n (FS B W t pl (kk + 1) i : Nat)) ∧ ∀ r, r ≠ 529 → r ≠ 530 → K' r = R r := by
      intro D kk u hD hu k
      induction k with
      | zero =>
        intro a K ha h30 h29 hr
        refine ⟨K, ?_, fun i hi => h29 i (by omega), hr⟩
        rw [C273_240 (fun h => absurd h (by rw [hr 489 (by decide) (by decide), hplc, e_n_ltN (by omega) (by omega)]; omega)), hr 489 (by decide) (by decide), hplc, if_neg (by rw [e_n_ltN (by omega) (by omega)]; omega), e_n_succ, show a = bPl B by omega]
      | succ k ih =>
        intro a K ha h30 h29 hr
        have hab : a < bPl B := by omega
        have hwt : (if tf (¬ W = e_n (-1) ∧ ¬ e_n (D : Nat) < W) = 0 then e_n 10 else if bR B 1 a = e_n (-1) then e_n 10 else e_n 10 - bR B 1 a) = e_n (wtS B W D a : Nat) := by
          rw [← wt_n (W := W) (D := D) wb hab]
          by_cases c1 : bR B 1 a = e_n (-1)
          · rw [if_pos c1, if_pos c1]; split <;> rfl
          · rw [if_neg c1, if_neg c1]
            by_cases c2 : W = e_n (-1)
            · rw [if_pos c2, if_pos (by rw [tf_eq0]; exact fun h => h.1 c2)]
            · rw [if_neg c2]
              by_cases c3 : e_n (D : Nat) < W
              · rw [if_pos c3, if_pos (by rw [tf_eq0]; exact fun h => h.2 c3)]
              · rw [if_neg c3, if_neg (by rw [tf_eq0]; exact fun h => h ⟨c2, c3⟩)]
        obtain ⟨K', e1, e2, e3⟩ := ih (a + 1) (e_u K 529 a (e_n (FS B W t pl (kk + 1) a : Nat))) (by omega) (fun i hi => by rw [e_u_na (by decide)]; exact h30 i hi) (fun i hi => by
          rw [e_u_at]
          by_cases hia : i = a
          · rw [if_pos hia, hia]
          · rw [if_neg hia]; exact h29 i (by omega)) (fun r h1 h2 => by rw [e_u_na h1]; exact hr r h1 h2)
        refine ⟨K', ?_, e2, e3⟩
        have hfs : u a * wtS B W D a = FS B W t pl (kk + 1) a := by rw [hu a hab, hD]; rfl
        rw [C273_240 (fun _ => InR_n (by omega) (by omega) (by omega)), hr 489 (by decide) (by decide), hplc, if_pos (by rw [e_n_ltN (by omega) (by omega)]; omega), e_n_nat' (by omega), h30 a hab, hr 490 (by decide) (by decide), hdg a hab, hwt, e_n_mul, show (u a : Int) * (wtS B W D a : Nat) = ((FS B W t pl (kk + 1) a : Nat) : Int) by rw [← hfs, Int.natCast_mul], e_n_succ]
        exact e1
    -- day by day
    have main : ∀ m kk (K : Nat → Nat → Int32) (u5 u6 : Value), kk + m = N → (∀ i, i < bPl B → K 529 i = e_n (FS B W t pl kk i : Nat)) → (∀ r, r ≠ 529 → r ≠ 530 → K r = R r) → ∃ K' u6', e_L (d + 9) 273 106 [.ref 489, .int (e_n (p : Nat)), .int (e_n (N : Nat)), .int W, .int (e_n ((t + kk : Nat) : Nat)), u5, u6] [] (mk K z2) = e_L (d + 9) 273 313 [.ref 489, .int (e_n (p : Nat)), .int (e_n (N : Nat)), .int W, .int (e_n 0), .int (e_n 0), u6'] [] (mk K' z2) ∧ (∀ i, i < bPl B → K' 529 i = e_n (FS B W t pl N i : Nat)) ∧ ∀ r, r ≠ 529 → r ≠ 530 → K' r = R r := by
      intro m
      induction m with
      | zero =>
        intro kk K u5 u6 hk h29 hr
        have : kk = N := by omega
        subst this
        refine ⟨K, u6, ?_, h29, hr⟩
        rw [C273_106, hr 515 (by decide) (by decide), b6, hd, if_neg (by rw [e_n_add, show ((t : Nat) : Int) + (kk : Nat) = ((t + kk : Nat) : Int) by omega, e_n_ltN (by omega) (by omega)]; omega)]
      | succ m ih =>
        intro kk K u5 u6 hk h29 hr
        obtain ⟨K1, e1, e2, e3, e4⟩ := lc (FS B W t pl kk) (t + kk) u6 (bPl B) 0 K (by omega) h29 (fun i hi => absurd hi (Nat.not_lt_zero i)) hr
        obtain ⟨K2, u2, f1, f2, f3, f4, f5⟩ := lw (FS B W t pl kk) (t + kk) u6 (fun c => FSlt kk c (by omega)) (bWy B) 0 K1 (FS B W t pl kk) (by omega) e2 e3 (fun c => FSlt kk c (by omega)) (fun b hb => ⟨fun a _ he => by
          rcases he with he | ⟨-, v, hv, -⟩
          · rw [he]; exact Nat.le_refl _
          · omega, b, hb, Or.inl rfl, rfl⟩) e4
        obtain ⟨K3, g1, g2, g3⟩ := lm2 (t + kk) kk u2 rfl (fun i hi => by
          obtain ⟨h1, a, ha, he, hu⟩ := f4 i hi
          exact (mx_is (fun a ha h => h1 a ha ((edS_W wb ha).mp h)) ⟨a, ha, (edS_W wb ha).mpr he, hu⟩).symm) (bPl B) 0 K2 (by omega) f3 (fun i hi => absurd hi (Nat.not_lt_zero i)) f5
        obtain ⟨K4, u6', y1, y2, y3⟩ := ih (kk + 1) K3 (.int (tf (¬ W = e_n (-1) ∧ ¬ e_n ((t + kk : Nat) : Nat) < W))) (.int (e_n (bPl B : Nat))) (by omega) g2 g3
        refine ⟨K4, u6', ?_, y2, y3⟩
        rw [C273_106, hr 515 (by decide) (by decide), b6, hd, if_pos (by rw [e_n_add, show ((t : Nat) : Int) + (N : Nat) = ((t + N : Nat) : Int) by omega, e_n_ltN (by omega) (by omega)]; omega), show (e_n 0) = e_n ((0 : Nat) : Nat) from rfl, e1, show (e_n 0) = e_n ((0 : Nat) : Nat) from rfl, f1, show (e_n 0) = e_n ((0 : Nat) : Nat) from rfl, g1]
        exact y1
    obtain ⟨K1, e1, e2, e3⟩ := l0 8 0 R (by decide) (fun i hi => absurd hi (Nat.not_lt_zero i)) (fun _ _ _ => rfl)
    obtain ⟨K2, u6', f1, f2, f3⟩ := main N 0 K1 .null .null (by omega) e2 e3
    -- the best of all
    have lb : ∀ k a, a + k = bPl B → e_L (d + 9) 273 313 [.ref 489, .int (e_n (p : Nat)), .int (e_n (N : Nat)), .int W, .int (e_n (mx a (fun a => FS B W t pl N a) : Nat)), .int (e_n (a : Nat)), u6'] [] (mk K2 z2) = some (.inl (some (.int (e_n (GS B W N t pl : Nat)))), mk K2 z2) := by
      intro k
      induction k with
      | zero =>
        intro a ha
        have : a = bPl B := by omega
        subst this
        rw [C273_313 (fun h => absurd h (by rw [f3 489 (by decide) (by decide), hplc, e_n_ltN (by omega) (by omega)]; omega)), f3 489 (by decide) (by decide), hplc, if_neg (by rw [e_n_ltN (by omega) (by omega)]; omega), FG hpl N]
      | succ k ih =>
        intro a ha
        have hmlt : mx a (fun a => FS B W t pl N a) < 2147483648 := Nat.lt_of_le_of_lt (mx_le (fun a _ => Nat.le_trans (FS_le N a) (pow9 hN9))) (by decide)
        have hst : (if e_n (mx a (fun a => FS B W t pl N a) : Nat) < e_n (FS B W t pl N a : Nat) then e_n (FS B W t pl N a : Nat) else e_n (mx a (fun a => FS B W t pl N a) : Nat)) = e_n (mx (a + 1) (fun a => FS B W t pl N a) : Nat) := by
          rw [mx_succ, ← e_max_n hmlt (FSlt N a hN9)]; rfl
        rw [C273_313 (fun _ => InR_n (by omega) (by omega) (by omega)), f3 489 (by decide) (by decide), hplc, if_pos (by rw [e_n_ltN (by omega) (by omega)]; omega), e_n_nat' (by omega), f2 a (by omega), hst, e_n_succ]
        exact ih (a + 1) (by omega)
    have fr : RfE R K2 := ⟨fun r _ h2 => f3 r (fun q => h2 (by unfold ScrR; omega)) (fun q => h2 (by unfold ScrR; omega)), fun j _ => by rw [f3 489 (by decide) (by decide)]⟩
    refine ⟨K2, e_n (GS B W N t pl : Nat), e_E_ret (d := d + 9) ?_, RfE_tr b4 fr, by rw [f3 489 (by decide) (by decide)]; exact b5, rfl⟩
    show e_L (d + 9) 273 0 [.ref 489, .int (e_n (p : Nat)), .int (e_n (N : Nat)), .null, .null, .null, .null] [] (mk J z2) = _
    rw [C273_0, c245y (RB_0 (rel_rb HJ)) K0 hm, e_rI_i, C273_10, if_neg (by decide), right_y K0 ⟨hw1, hw9⟩, e_rI_i, C273_25, if_neg (by decide), hK, if_neg (fun h => hdd (hsb.mp h)), b1, e_rV_n, C273_47 g4, i4, b2.1 _ (by omega), hW]
    exact e1.trans (f1.trans (lb (bPl B) 0 (by omega)))
theorem X158 {d : Nat} {I : Nat → Nat → Int32} {z : e_Z} {B : e_B} (H : Rel I z B) {x : Int32} : FaceX (fun e => e = 1) d (e_n 1) I z 158 283 [.int x] := by
  have wb := rel_wb H
  have wb4 : bPe B ≤ 9 := wb.2.2.2.1
  have hb := B2_bd z.2.1.1
  have hB := rel_bc H
  by_cases hm : x < 0 ∨ e_n 999 < x
  · refine throw_qX (by decide) H ?_ ?_
    · refine (e_E_11 (d := d + 9) (y := 158) rfl).trans ?_
      show e_L (d + 9) 158 0 [.ref 1, .int x, .null, .null, .null] [] (mk I z) = _
      rw [C158_0, if_pos hm]; rfl
    · intro J z2 HJ
      refine ⟨e_n 0, e_E_ret (d := d + 9) ?_⟩
      show e_L (d + 9) 283 0 [.ref 489, .int x, .null, .null, .null, .null] [] (mk J z2) = _
      rw [C283_0, right_n K0 (fun q => hm.elim q.1 q.2) (by decide), e_rI_i, C283_18, if_pos (by decide)]
  have hdead : I 51 2 = I 515 1 := (rel_mc H).2.2.1
  obtain ⟨n, hn, hD⟩ := small_bits (x := I 515 1) (n := 9) (by decide) (fun i hi => (rel_wm H).2.2.2.2.2.1 i (by omega))
  have hn' : n < 512 := hn
  have tail : ∀ k s, n + 1 + k ≤ 512 → itr (ro1 B (e_n (n : Nat)) x) (n + 1 + k) 0 s = itr (ro1 B (e_n (n : Nat)) x) (n + 1) 0 s := fun k s hk => by
    refine itr_tail (fun j q hj hj2 => ?_) s k hk
    unfold ro1
    rw [if_neg (fun h => by have := sub_le hj2 hn' h; omega)]
  refine face_rdX H (r := .inl (itr (ro1 B (e_n (n : Nat)) x) 512 0 (e_n (-1)))) (I1 := I) (zs_rf z) rfl (e_E_ret (d := d + 9) ?_) (fun _ _ => rfl) ?_
  · show e_L (d + 9) 158 0 [.ref 1, .int x, .null, .null, .null] [] (mk I z) = _
    have loop : ∀ k i q u, i + k = 512 → (∀ j, 9 ≤ j → ¬ q = e_n (-1) → bt q j = false) → e_L (d + 9) 158 26 [.ref 1, .int x, .int q, .int (e_n (i : Nat)), u] [] (mk I z) = some (.inl (some (.int (itr (ro1 B (e_n (n : Nat)) x) k i q))), mk I z) := by
      intro k
      induction k with
      | zero =>
        intro i q u hi hq
        have : i = 512 := by omega
        subst this
        rw [C158_26, if_neg (by decide)]; rfl
      | succ k ih =>
        intro i q u hi hq
        have hlt : e_n (i : Nat) < e_shl (e_n 1) (e_n 9) := by rw [show e_shl (e_n 1) (e_n 9) = e_n ((512 : Nat) : Nat) from by decide, e_n_ltN (by omega) (by omega)]; omega
        have hi9 := bt9 (k := i) (by omega)
        have key : ∀ c u, (c = (q = e_n (-1) ∨ bc (e_n (i : Nat)) < bc q)) → e_L (d + 9) 158 26 [.ref 1, .int x, .int (itr (ro1 B (e_n (n : Nat)) x) 1 i q), .int (e_n ((i + 1 : Nat) : Nat)), u] [] (mk I z) = some (.inl (some (.int (itr (ro1 B (e_n (n : Nat)) x) (k + 1) i q))), mk I z) := by
          intro c u hc
          refine ih (i + 1) _ u (by omega) ?_
          intro j hj hne
          show bt (ro1 B (e_n (n : Nat)) x i q) j = false
          have hne' : ¬ ro1 B (e_n (n : Nat)) x i q = e_n (-1) := hne
          unfold ro1 at hne' ⊢
          split at hne' <;> rename_i h1
          · rw [if_pos h1]
            split at hne' <;> rename_i h2
            · rw [if_pos h2]
              split at hne' <;> rename_i h3
              · rw [if_pos h3]; exact hi9 j hj
              · rw [if_neg h3]; exact hq j hj hne'
            · rw [if_neg h2]; exact hq j hj hne'
          · rw [if_neg h1]; exact hq j hj hne'
        rw [C158_26, if_pos hlt]
        by_cases hq1 : q = e_n (-1)
        · rw [if_pos hq1, hdead, hD, v9h hb wb hB, e_n_succ]
          have : (if e_n (i : Nat) &&& (e_n (n : Nat) ^^^ e_n (-1)) = 0 then if gsS B (e_n (i : Nat)) = x then e_n (i : Nat) else q else q) = ro1 B (e_n (n : Nat)) x i q := by
            unfold ro1
            simp only [hq1, true_or, if_true]
          rw [this]
          exact key _ (.int (e_n 1)) rfl
        · rw [if_neg hq1, c329, e_rI_i, v329_bc hi9, C158_44, c329, e_rI_i, v329_bc (fun j hj => hq j hj hq1), C158_48, hdead, hD, v9h hb wb hB, e_n_succ]
          have : (if e_n (i : Nat) &&& (e_n (n : Nat) ^^^ e_n (-1)) = 0 then if bc (e_n (i : Nat)) < bc q then if gsS B (e_n (i : Nat)) = x then e_n (i : Nat) else q else q else q) = ro1 B (e_n (n : Nat)) x i q := by
            unfold ro1
            simp only [hq1, false_or]
          rw [this]
          exact key _ _ rfl
    rw [C158_0, if_neg hm]
    exact loop 512 0 (e_n (-1)) .null (by decide) (fun j hj h => absurd rfl h)
  · intro J z2 HJ hq
    have rb := RB_0 (v := e_n 0) (rel_rb HJ)
    have hdJ : e_u J 489 0 (e_n 0) 515 1 = e_n (n : Nat) := by rw [K515 (by decide), hq 515 (by decide), hD]
    have hpe : e_u J 489 0 (e_n 0) 489 4 = e_n (bPe B : Nat) := rb.2.2.2.1
    have hgo : ∀ p, p < bPe B → e_u J 489 0 (e_n 0) 494 p = bR B 5 p := fun p hp => (rb.2.2.2.2.2.2.2.2.2.1 p hp).1
    have hG0 : e_u J 489 0 (e_n 0) 489 0 = e_n 0 := e_u_same
    have hGJ : RfE J (e_u J 489 0 (e_n 0)) := RfE_0
    have hr : e_E (d + 9 + 1) 177 [.ref 489, .int (tf (¬ x < e_n 0 ∧ ¬ e_n 999 < x)), .int (e_n 1)] (mk (e_u J 489 0 (e_n 0)) z2) = _ := right_y K0 ⟨fun h => hm (Or.inl h), fun h => hm (Or.inr h)⟩
    refine ⟨e_u J 489 0 (e_n 0), itr (ro1 B (e_n (n : Nat)) x) 512 0 (e_n (-1)), e_E_ret (d := d + 9) ?_, hGJ, hG0, rfl⟩
    show e_L (d + 9) 283 0 [.ref 489, .int x, .null, .null, .null, .null] [] (mk J z2) = _
    rw [C283_0, right_y K0 ⟨fun h => hm (Or.inl h), fun h => hm (Or.inr h)⟩, e_rI_i, C283_18, if_neg (by decide)]
    generalize e_u J 489 0 (e_n 0) = G at rb hdJ hpe hgo hG0 hGJ
    have inner : ∀ (q : Int32) (i : Nat), i < 512 → ∀ k p (s : Int32), p + k = bPe B → e_L (d + 9) 283 75 [.ref 489, .int x, .int q, .int (e_n (i : Nat)), .int s, .int (e_n (p : Nat))] [] (mk G z2) = e_L (d + 9) 283 27 [.ref 489, .int x, .int (if itr (fun j q => q + (if bt (e_n (i : Nat)) j = true then bR B 5 j else e_n 0)) k p s = x then e_n (i : Nat) else q), .int (e_n ((i + 1 : Nat) : Nat)), .int (itr (fun j q => q + (if bt (e_n (i : Nat)) j = true then bR B 5 j else e_n 0)) k p s), .int (e_n (bPe B : Nat))] [] (mk G z2) := by
      intro q i hi k
      induction k with
      | zero =>
        intro p s hp
        have : p = bPe B := by omega
        subst this
        rw [C283_75 (fun h => absurd h (by rw [hpe, e_n_ltN (by omega) (by omega)]; omega)), hpe, if_neg (by rw [e_n_ltN (by omega) (by omega)]; omega), e_n_succ]
        rfl
      | succ k ih =>
        intro p s hp
        have hv : (if e_shr (e_n (i : Nat)) (e_n (p : Nat)) &&& e_n 1 = e_n 1 then G 494 p else e_n 0) = (if bt (e_n (i : Nat)) p = true then bR B 5 p else e_n 0) := by
          rw [hgo p (by omega)]
          have := shr_bit (e_n (i : Nat)) (show p < 32 by omega)
          by_cases h : bt (e_n (i : Nat)) p = true
          · rw [if_pos (this.mpr h), if_pos h]
          · rw [if_neg (fun q => h (this.mp q)), if_neg h]
        rw [C283_75 (fun _ _ => InR_n (by omega) (by omega) (by omega)), if_pos (by rw [hpe, e_n_ltN (by omega) (by omega)]; omega), e_n_nat' (by omega), hv, e_n_succ]
        exact ih (p + 1) _ (by omega)
    have loop : ∀ k i q u5 u6, i + k = n + 1 → e_L (d + 9) 283 27 [.ref 489, .int x, .int q, .int (e_n (i : Nat)), u5, u6] [] (mk G z2) = some (.inl (some (.int (itr (ro1 B (e_n (n : Nat)) x) k i q))), mk G z2) := by
      intro k
      induction k with
      | zero =>
        intro i q u5 u6 hi
        have : i = n + 1 := by omega
        subst this
        rw [C283_27, hdJ, if_pos (by rw [e_n_ltN (by omega) (by omega)]; omega)]; rfl
      | succ k ih =>
        intro i q u5 u6 hi
        rw [C283_27, hdJ, if_neg (by rw [e_n_ltN (by omega) (by omega)]; omega), v181_bc, v181_bc, e_n_succ]
        rw [show itr (ro1 B (e_n (n : Nat)) x) (k + 1) i q = itr (ro1 B (e_n (n : Nat)) x) k (i + 1) (ro1 B (e_n (n : Nat)) x i q) from rfl]
        by_cases h1 : e_n (i : Nat) &&& (e_n (n : Nat) ^^^ e_n (-1)) = 0
        · rw [if_pos h1]
          by_cases h2 : q = e_n (-1) ∨ bc (e_n (i : Nat)) < bc q
          · have e1 : ro1 B (e_n (n : Nat)) x i q = if gsS B (e_n (i : Nat)) = x then e_n (i : Nat) else q := by unfold ro1; rw [if_pos h1, if_pos h2]
            have e2 : e_L (d + 9) 283 75 [.ref 489, .int x, .int q, .int (e_n (i : Nat)), .int (e_n 0), .int (e_n 0)] [] (mk G z2) = _ := inner q i (by omega) (bPe B) 0 (e_n 0) (by omega)
            have e3 := e2.trans (ih (i + 1) _ _ _ (by omega))
            rw [e1]
            by_cases h3 : q = e_n (-1)
            · rw [if_pos h3]; exact e3
            · rw [if_neg h3, if_pos (h2.resolve_left h3)]; exact e3
          · have e1 : ro1 B (e_n (n : Nat)) x i q = q := by unfold ro1; rw [if_pos h1, if_neg h2]
            rw [e1, if_neg (fun h => h2 (Or.inl h)), if_neg (fun h => h2 (Or.inr h))]
            exact ih (i + 1) q u5 u6 (by omega)
        · have e1 : ro1 B (e_n (n : Nat)) x i q = q := by unfold ro1; rw [if_neg h1]
          rw [e1, if_neg h1]
          exact ih (i + 1) q u5 u6 (by omega)
    have := loop (n + 1) 0 (e_n (-1)) .null .null (by omega)
    have e5 := tail (511 - n) (e_n (-1)) (by omega)
    rw [show n + 1 + (511 - n) = 512 by omega] at e5
    rw [e5]
    exact this
theorem X159 {d : Nat} {I : Nat → Nat → Int32} {z : e_Z} {B : e_B} (H : Rel I z B) {x x2 x3 : Int32} : FaceX (fun e => e ≤ 1) d (e_n 2) I z 159 286 [.int x, .int x2, .int x3] := by
  have wb := rel_wb H
  have wb1 : bMa B ≤ 3 := wb.1
  have wb4 : bPe B ≤ 9 := wb.2.2.2.1
  have hb := B2_bd z.2.1.1
  have hB := rel_bc H
  have hmc := hB.1
  by_cases hm : (x < 0 ∨ ¬ x < e_n (bMa B : Nat)) ∨ (x2 < 0 ∨ ¬ x2 < e_n (bMa B : Nat)) ∨ (x3 < 0 ∨ ¬ x3 < e_n ((2 : Nat) : Nat))
  · refine throw_pX (by decide) H ?_ ?_
    · refine (e_E_11 (d := d + 9) (y := 159) rfl).trans ?_
      show e_L (d + 9) 159 0 [.ref 1, .int x, .int x2, .int x3, .null, .null, .null, .null, .null, .null, .null, .null, .null] [] (mk I z) = _
      rw [C159_0, hmc]
      by_cases h1 : x < 0 ∨ ¬ x < e_n (bMa B : Nat)
      · rw [if_pos h1]; rfl
      · rw [if_neg h1]
        by_cases h2 : x2 < 0 ∨ ¬ x2 < e_n (bMa B : Nat)
        · rw [if_pos h2]; rfl
        · rw [if_neg h2, if_pos (show x3 < 0 ∨ ¬ x3 < e_n 2 from (hm.resolve_left h1).resolve_left h2)]; rfl
    · intro J z2 HJ
      refine ⟨e_n 0, e_E_ret (d := d + 9) ?_⟩
      show e_L (d + 9) 286 0 [.ref 489, .int x, .int x2, .int x3, .null, .null, .null, .null, .null, .null, .null] [] (mk J z2) = _
      by_cases h1 : x < 0 ∨ ¬ x < e_n (bMa B : Nat)
      · rw [C286_0, c243n (RB_0 (rel_rb HJ)) K0 h1, e_rI_i, C286_10, if_pos (by decide)]
      · rw [C286_0, c243y (RB_0 (rel_rb HJ)) K0 h1, e_rI_i, C286_10, if_neg (by decide)]
        by_cases h2 : x2 < 0 ∨ ¬ x2 < e_n (bMa B : Nat)
        · rw [c243n (RB_0 (rel_rb HJ)) K0 h2, e_rI_i, C286_18, if_pos (by decide)]
        · rw [c243y (RB_0 (rel_rb HJ)) K0 h2, e_rI_i, C286_18, if_neg (by decide), c246n (x2 := e_n 1) (k := 1) rfl (by decide) K0 ((hm.resolve_left h1).resolve_left h2), e_rI_i, C286_27, if_pos (by decide)]
  have hm1 : ¬ (x < 0 ∨ ¬ x < e_n (bMa B : Nat)) := fun h => hm (Or.inl h)
  have hm2 : ¬ (x2 < 0 ∨ ¬ x2 < e_n (bMa B : Nat)) := fun h => hm (Or.inr (Or.inl h))
  have hm3 : ¬ (x3 < 0 ∨ ¬ x3 < e_n ((2 : Nat) : Nat)) := fun h => hm (Or.inr (Or.inr h))
  have pre : ∀ (J : Nat → Nat → Int32) (z2 : e_Z), Rel J z2 B → ¬ x = x2 → e_L (d + 9) 286 0 [.ref 489, .int x, .int x2, .int x3, .null, .null, .null, .null, .null, .null, .null] [] (mk J z2) = e_L (d + 9) 286 45 [.ref 489, .int x, .int x2, .int x3, .null, .null, .null, .null, .null, .null, .null] [.int (e_n 1)] (mk (e_u J 489 0 (e_n 0)) z2) := by
    intro J z2 HJ hne
    rw [C286_0, c243y (RB_0 (rel_rb HJ)) K0 hm1, e_rI_i, C286_10, if_neg (by decide), c243y (RB_0 (rel_rb HJ)) K0 hm2, e_rI_i, C286_18, if_neg (by decide), c246y (x2 := e_n 1) (k := 1) rfl (by decide) K0 hm3, e_rI_i, C286_27, if_neg (by decide), right_y K0 hne, e_rI_i]
  by_cases hxx : x = x2
  · refine throw_qX (by decide) H ?_ ?_
    · refine (e_E_11 (d := d + 9) (y := 159) rfl).trans ?_
      show e_L (d + 9) 159 0 [.ref 1, .int x, .int x2, .int x3, .null, .null, .null, .null, .null, .null, .null, .null, .null] [] (mk I z) = _
      rw [C159_0, hmc, if_neg hm1, if_neg hm2, if_neg (show ¬ (x3 < 0 ∨ ¬ x3 < e_n 2) from hm3), if_pos hxx]; rfl
    · intro J z2 HJ
      refine ⟨e_n 0, e_E_ret (d := d + 9) ?_⟩
      show e_L (d + 9) 286 0 [.ref 489, .int x, .int x2, .int x3, .null, .null, .null, .null, .null, .null, .null] [] (mk J z2) = _
      rw [C286_0, c243y (RB_0 (rel_rb HJ)) K0 hm1, e_rI_i, C286_10, if_neg (by decide), c243y (RB_0 (rel_rb HJ)) K0 hm2, e_rI_i, C286_18, if_neg (by decide), c246y (x2 := e_n 1) (k := 1) rfl (by decide) K0 hm3, e_rI_i, C286_27, if_neg (by decide), right_n K0 (fun q => q hxx) (by decide), e_rI_i, C286_45, if_pos (by decide)]
  obtain ⟨m, hmb, rfl⟩ := in_n (by omega) hm1
  obtain ⟨n, hnb, rfl⟩ := in_n (by omega) hm2
  have f1 := frS_n wb (I 515) m (bTi B) 0 (by omega)
  have f2 := frS_n wb (I 515) n (bTi B) 0 (by omega)
  generalize hf1 : frS B (I 515) m (bTi B) 0 = fa at f1
  generalize hf2 : frS B (I 515) n (bTi B) 0 = fb at f2
  have hpa := pzS_c B m fb
  have hpb := pzS_c B n fa
  have ha : ∃ a : Nat, a < 2 ∧ tf (¬ (fa = e_n (-1))) = e_n (a : Nat) ∧ (a = 1 → ¬ fa = e_n (-1)) := by
    by_cases h : fa = e_n (-1)
    · exact ⟨0, by decide, by unfold tf; exact if_neg (fun q => q h), fun q => by cases q⟩
    · exact ⟨1, by decide, by unfold tf; exact if_pos h, fun _ => h⟩
  have hbb : ∃ b : Nat, b < 2 ∧ tf (¬ (fb = e_n (-1))) = e_n (b : Nat) ∧ (b = 1 → ¬ fb = e_n (-1)) := by
    by_cases h : fb = e_n (-1)
    · exact ⟨0, by decide, by unfold tf; exact if_neg (fun q => q h), fun q => by cases q⟩
    · exact ⟨1, by decide, by unfold tf; exact if_pos h, fun _ => h⟩
  obtain ⟨a, ha2, ta, hane⟩ := ha
  obtain ⟨b, hb2, tb, hbne⟩ := hbb
  have hbe := bg_eq a ha2 b hb2 _ _ hpa hpb
  refine face_rdX H (r := .inl (if x3 = 0 then (bgD a b (pzS B m fb) (pzS B n fa) 4 (e_n 0, e_n (-1))).1 else (bgD a b (pzS B m fb) (pzS B n fa) 4 (e_n 0, e_n (-1))).2)) (I1 := I) (zs_rf z) rfl (e_E_ret (d := d + 9) ?_) (fun _ _ => rfl) ?_
  · show e_L (d + 9) 159 0 [.ref 1, .int (e_n (m : Nat)), .int (e_n (n : Nat)), .int x3, .null, .null, .null, .null, .null, .null, .null, .null, .null] [] (mk I z) = _
    have hlm : I 51 1 = lm B (I 515) := (rel_mc H).2.1
    have hc1 := c10h (d := d + 6) (z := z) (M := I 515) hb wb hB hmb
    have hc2 := c10h (d := d + 6) (z := z) (M := I 515) hb wb hB hnb
    have foe : ∀ k, k < bMa B → rd I (bd z.2.1.1 + 14) (e_n (k : Nat)) = fm B (e_n (k : Nat)) (e_n 0) := fun k hk => by rw [rd_N (by rw [lnb14 hb]; omega), (hB.2.2.2.2.2.2.2.2.2.1 k hk).2.1]
    have loop : ∀ (k : Nat) (s : Int32 × Int32) u11 u12, k ≤ 4 → e_L (d + 9) 159 144 [.ref 1, .int (e_n (m : Nat)), .int (e_n (n : Nat)), .int x3, .int fa, .int fb, .int (pzS B m fb), .int (pzS B n fa), .int s.1, .int s.2, .int (e_n ((k : Int) - 1)), u11, u12] [] (mk I z) = some (.inl (some (.int (if x3 = 0 then (bgD a b (pzS B m fb) (pzS B n fa) k s).1 else (bgD a b (pzS B m fb) (pzS B n fa) k s).2))), mk I z) := by
      intro k
      induction k with
      | zero =>
        intro s u11 u12 hk
        rw [C159_144, if_pos (by decide)]; rfl
      | succ k ih =>
        intro s u11 u12 hk
        obtain ⟨j1, j2, -, -⟩ := bgj k (by omega)
        have e1 : (((k + 1 : Nat) : Int) - 1) = ((k : Nat) : Int) := by omega
        rw [e1, C159_144, if_neg (by rw [show (0 : Int32) = e_n ((0 : Nat) : Nat) from rfl, e_n_ltN (by omega) (by omega)]; omega), j1, j2, ta, tb, v160_I, e_n_add, show ((k : Nat) : Int) + -1 = (k : Int) - 1 by omega]
        have hs := ih (if okB a b (pzS B m fb) (pzS B n fa) k = true then (s.1 + e_n 1, e_n 10 * e_n ((k / 2 : Nat) : Nat) + e_n ((k % 2 : Nat) : Nat)) else s) (.int (e_n ((k / 2 : Nat) : Nat))) (.int (e_n ((k % 2 : Nat) : Nat))) (by omega)
        rw [show bgD a b (pzS B m fb) (pzS B n fa) (k + 1) s = bgD a b (pzS B m fb) (pzS B n fa) k (if okB a b (pzS B m fb) (pzS B n fa) k = true then (s.1 + e_n 1, e_n 10 * e_n ((k / 2 : Nat) : Nat) + e_n ((k % 2 : Nat) : Nat)) else s) from rfl]
        rw [← hs]
        unfold okB
        by_cases g1 : v160 (fun _ _ => 0) (e_n ((k / 2 : Nat) : Nat)) (e_n ((k % 2 : Nat) : Nat)) (pzS B m fb) (e_n (a : Nat)) = 0
        · rw [if_pos g1, if_pos g1, if_neg (show ¬ decide _ = true from fun h => (of_decide_eq_true h).1 g1)]
        · rw [if_neg g1, if_neg g1]
          by_cases g2 : v160 (fun _ _ => 0) (e_n ((k % 2 : Nat) : Nat)) (e_n ((k / 2 : Nat) : Nat)) (pzS B n fa) (e_n (b : Nat)) = 0
          · rw [if_pos g2, if_pos g2, if_neg (show ¬ decide _ = true from fun h => (of_decide_eq_true h).2 g2)]
          · rw [if_neg g2, if_neg g2, if_pos (show decide _ = true from decide_eq_true ⟨g1, g2⟩)]
    have hpa' : (if fb = e_n (-1) then e_n 0 else if rd I (bd z.2.1.1 + 14) (e_n (m : Nat)) &&& e_shl (e_n 1) fb = 0 then e_n 0 else e_n 5) = pzS B m fb := by rw [foe m hmb]; rfl
    have hpb' : (if fa = e_n (-1) then e_n 0 else if rd I (bd z.2.1.1 + 14) (e_n (n : Nat)) &&& e_shl (e_n 1) fa = 0 then e_n 0 else e_n 5) = pzS B n fa := by rw [foe n hnb]; rfl
    rw [C159_0, hmc, if_neg hm1, if_neg hm2, if_neg (show ¬ (x3 < 0 ∨ ¬ x3 < e_n 2) from hm3), if_neg hxx, hlm, hc1, e_rI_i, C159_49, hlm, hc2, e_rI_i, hf1, hf2, C159_69, hpa', hpb']
    exact loop 4 (e_n 0, e_n (-1)) .null .null (by decide)
  · intro J z2 HJ hq
    rw [hbe]
    have rb := RB_0 (v := e_n 0) (rel_rb HJ)
    have hM : e_u J 489 0 (e_n 0) 515 = I 515 := by rw [K515 (by decide), hq 515 (by decide)]
    refine ⟨e_u J 489 0 (e_n 0), _, e_E_ret (d := d + 9) ((pre J z2 HJ hxx).trans ?_), RfE_0, K0, rfl⟩
    generalize e_u J 489 0 (e_n 0) = G at rb hM
    have g1 : ∀ c o, c < 2 → o < 2 → (o = 1 → b = 1) → e_E (d + 7 + 2) 285 [.ref 489, .int (e_n (m : Nat)), .int (e_n (n : Nat)), .int (e_n (c : Nat)), .int (e_n (o : Nat))] (mk G z2) = some (.inl (some (.int (v161 (fun _ _ => 0) (e_n (c : Nat)) (e_n (o : Nat)) (pzS B m fb)))), mk G z2) := by
      intro c o hc ho hob
      have := c285h (d := d + 7) (m := m) (n := n) (z := z2) wb rb hM hc ho (fun h => by rw [hf2]; exact hbne (hob h))
      rw [hf2] at this
      exact this
    have g2 : ∀ c o, c < 2 → o < 2 → (o = 1 → a = 1) → e_E (d + 7 + 2) 285 [.ref 489, .int (e_n (n : Nat)), .int (e_n (m : Nat)), .int (e_n (c : Nat)), .int (e_n (o : Nat))] (mk G z2) = some (.inl (some (.int (v161 (fun _ _ => 0) (e_n (c : Nat)) (e_n (o : Nat)) (pzS B n fa)))), mk G z2) := by
      intro c o hc ho hob
      have := c285h (d := d + 7) (m := n) (n := m) (z := z2) wb rb hM hc ho (fun h => by rw [hf1]; exact hane (hob h))
      rw [hf1] at this
      exact this
    have up : ∀ (k j : Nat) (s : Int32 × Int32) u9 u10, j + k = 4 → e_L (d + 9) 286 91 [.ref 489, .int (e_n (m : Nat)), .int (e_n (n : Nat)), .int x3, .int (e_n (a : Nat)), .int (e_n (b : Nat)), .int s.1, .int s.2, .int (e_n (j : Nat)), u9, u10] [] (mk G z2) = some (.inl (some (.int (if x3 = 0 then (bgU a b (pzS B m fb) (pzS B n fa) k j s).1 else (bgU a b (pzS B m fb) (pzS B n fa) k j s).2))), mk G z2) := by
      intro k
      induction k with
      | zero =>
        intro j s u9 u10 hj
        have : j = 4 := by omega
        subst this
        rw [C286_91, if_neg (by decide)]; rfl
      | succ k ih =>
        intro j s u9 u10 hj
        obtain ⟨-, -, j3, j4⟩ := bgj j (by omega)
        have hc : j / 2 < 2 := by omega
        have ho : j % 2 < 2 := by omega
        have ok1 : okB a b (pzS B m fb) (pzS B n fa) j = decide (¬ v160 (fun _ _ => 0) (e_n ((j / 2 : Nat) : Nat)) (e_n ((j % 2 : Nat) : Nat)) (pzS B m fb) (e_n (a : Nat)) = 0 ∧ ¬ v160 (fun _ _ => 0) (e_n ((j % 2 : Nat) : Nat)) (e_n ((j / 2 : Nat) : Nat)) (pzS B n fa) (e_n (b : Nat)) = 0) := rfl
        have hs : ∀ s', e_L (d + 9) 286 91 [.ref 489, .int (e_n (m : Nat)), .int (e_n (n : Nat)), .int x3, .int (e_n (a : Nat)), .int (e_n (b : Nat)), .int s'.1, .int s'.2, .int (e_n ((j + 1 : Nat) : Nat)), .int (e_n ((j / 2 : Nat) : Nat)), .int (e_n ((j % 2 : Nat) : Nat))] [] (mk G z2) = some (.inl (some (.int (if x3 = 0 then (bgU a b (pzS B m fb) (pzS B n fa) k (j + 1) s').1 else (bgU a b (pzS B m fb) (pzS B n fa) k (j + 1) s').2))), mk G z2) := fun s' => ih (j + 1) s' _ _ (by omega)
        have hU : bgU a b (pzS B m fb) (pzS B n fa) (k + 1) j s = bgU a b (pzS B m fb) (pzS B n fa) k (j + 1) (if okB a b (pzS B m fb) (pzS B n fa) j = true then (s.1 + e_n 1, if s.2 = e_n (-1) then e_n 10 * e_n ((j / 2 : Nat) : Nat) + e_n ((j % 2 : Nat) : Nat) else s.2) else s) := rfl
        rw [hU]
        clear hU
        rw [C286_91, if_pos (by rw [show (e_n 4) = e_n ((4 : Nat) : Nat) from rfl, e_n_ltN (by omega) (by omega)]; omega), j3, j4, e_n_succ]
        generalize j / 2 = c at hc ok1 hs
        generalize j % 2 = o at ho ok1 hs
        generalize okB a b (pzS B m fb) (pzS B n fa) j = ok at ok1
        have no : ok = false → e_L (d + 9) 286 91 [.ref 489, .int (e_n (m : Nat)), .int (e_n (n : Nat)), .int x3, .int (e_n (a : Nat)), .int (e_n (b : Nat)), .int s.1, .int s.2, .int (e_n ((j + 1 : Nat) : Nat)), .int (e_n (c : Nat)), .int (e_n (o : Nat))] [] (mk G z2) = some (.inl (some (.int (if x3 = 0 then (bgU a b (pzS B m fb) (pzS B n fa) k (j + 1) (if ok = true then (s.1 + e_n 1, if s.2 = e_n (-1) then e_n 10 * e_n (c : Nat) + e_n (o : Nat) else s.2) else s)).1 else (bgU a b (pzS B m fb) (pzS B n fa) k (j + 1) (if ok = true then (s.1 + e_n 1, if s.2 = e_n (-1) then e_n 10 * e_n (c : Nat) + e_n (o : Nat) else s.2) else s)).2))), mk G z2) := fun h => by
          rw [if_neg (show ¬ ok = true from fun q => by rw [h] at q; cases q)]
          exact hs s
        have yes : ok = true → e_L (d + 9) 286 91 [.ref 489, .int (e_n (m : Nat)), .int (e_n (n : Nat)), .int x3, .int (e_n (a : Nat)), .int (e_n (b : Nat)), .int (s.1 + e_n 1), .int (if s.2 = e_n (-1) then e_n 10 * e_n (c : Nat) + e_n (o : Nat) else s.2), .int (e_n ((j + 1 : Nat) : Nat)), .int (e_n (c : Nat)), .int (e_n (o : Nat))] [] (mk G z2) = some (.inl (some (.int (if x3 = 0 then (bgU a b (pzS B m fb) (pzS B n fa) k (j + 1) (if ok = true then (s.1 + e_n 1, if s.2 = e_n (-1) then e_n 10 * e_n (c : Nat) + e_n (o : Nat) else s.2) else s)).1 else (bgU a b (pzS B m fb) (pzS B n fa) k (j + 1) (if ok = true then (s.1 + e_n 1, if s.2 = e_n (-1) then e_n 10 * e_n (c : Nat) + e_n (o : Nat) else s.2) else s)).2))), mk G z2) := fun h => by
          rw [if_pos h]
          exact hs (s.1 + e_n 1, if s.2 = e_n (-1) then e_n 10 * e_n (c : Nat) + e_n (o : Nat) else s.2)
        have lt2 : ∀ u v : Nat, u < 2 → v < 2 → (e_n (u : Nat) < e_n (v : Nat)) = (u < v) := fun u v h1 h2 => e_n_ltN (by omega) (by omega)
        have w0 : ∀ (u v : Nat) (p : Int32), u = 1 → v160 (fun _ _ => 0) (e_n (u : Nat)) (e_n (v : Nat)) p (e_n ((0 : Nat) : Nat)) = 0 := fun u v p h => by rw [h]; rfl
        have w1 : ∀ (v : Nat) (p : Int32), ¬ v160 (fun _ _ => 0) (e_n ((0 : Nat) : Nat)) (e_n (v : Nat)) p (e_n ((0 : Nat) : Nat)) = 0 := fun v p h => absurd (show e_n 1 = 0 from h) (by decide)
        have w2 : ∀ (u v : Nat) (p : Int32), (v160 (fun _ _ => 0) (e_n (u : Nat)) (e_n (v : Nat)) p (e_n ((1 : Nat) : Nat)) = 0) = (v161 (fun _ _ => 0) (e_n (u : Nat)) (e_n (v : Nat)) p < v161 (fun _ _ => 0) (e_n 1 - e_n (u : Nat)) (e_n (v : Nat)) p) := fun u v p => by
          unfold v160
          rw [if_neg (show ¬ e_n ((1 : Nat) : Nat) = 0 by decide), tf_eq0, Decidable.not_not]
        have sub1 : ∀ u : Nat, u < 2 → e_n 1 - e_n (u : Nat) = e_n ((1 - u : Nat) : Nat) := fun u hu => by rw [e_n_sub]; congr 1; omega
        by_cases ac : a < c
        · have a0 : a = 0 := by omega
          have c1 : c = 1 := by omega
          rw [if_pos (by rw [lt2 a c ha2 hc]; exact ac)]
          refine no ?_
          rw [ok1, decide_eq_false_iff_not]
          intro h
          rw [a0] at h
          exact h.1 (w0 c o _ c1)
        rw [if_neg (by rw [lt2 a c ha2 hc]; exact ac)]
        by_cases bo : b < o
        · have b0 : b = 0 := by omega
          have o1 : o = 1 := by omega
          rw [if_pos (by rw [lt2 b o hb2 ho]; exact bo)]
          refine no ?_
          rw [ok1, decide_eq_false_iff_not]
          intro h
          rw [b0] at h
          exact h.2 (w0 o c _ o1)
        rw [if_neg (by rw [lt2 b o hb2 ho]; exact bo)]
        have okb : (v160 (fun _ _ => 0) (e_n (c : Nat)) (e_n (o : Nat)) (pzS B m fb) (e_n (a : Nat)) = 0) → ok = false := fun h => by rw [ok1, decide_eq_false_iff_not]; exact fun q => q.1 h
        have okc : (v160 (fun _ _ => 0) (e_n (o : Nat)) (e_n (c : Nat)) (pzS B n fa) (e_n (b : Nat)) = 0) → ok = false := fun h => by rw [ok1, decide_eq_false_iff_not]; exact fun q => q.2 h
        have okd : ¬ (v160 (fun _ _ => 0) (e_n (c : Nat)) (e_n (o : Nat)) (pzS B m fb) (e_n (a : Nat)) = 0) → ¬ (v160 (fun _ _ => 0) (e_n (o : Nat)) (e_n (c : Nat)) (pzS B n fa) (e_n (b : Nat)) = 0) → ok = true := fun h h2 => by rw [ok1]; exact decide_eq_true ⟨h, h2⟩
        -- the other's half
        have half : ¬ (v160 (fun _ _ => 0) (e_n (c : Nat)) (e_n (o : Nat)) (pzS B m fb) (e_n (a : Nat)) = 0) → b = 1 → e_rI (e_E (d + 9) 285 [.ref 489, .int (e_n (n : Nat)), .int (e_n (m : Nat)), .int (e_n 1 - e_n (o : Nat)), .int (e_n (c : Nat))] (mk G z2)) (fun v σ => e_L (d + 9) 286 175 [.ref 489, .int (e_n (m : Nat)), .int (e_n (n : Nat)), .int x3, .int (e_n (a : Nat)), .int (e_n (b : Nat)), .int s.1, .int s.2, .int (e_n (j : Nat)), .int (e_n (c : Nat)), .int (e_n (o : Nat))] [.int v] σ) = fun _ => some (.inl (some (.int (if x3 = 0 then (bgU a b (pzS B m fb) (pzS B n fa) k (j + 1) (if ok = true then (s.1 + e_n 1, if s.2 = e_n (-1) then e_n 10 * e_n (c : Nat) + e_n (o : Nat) else s.2) else s)).1 else (bgU a b (pzS B m fb) (pzS B n fa) k (j + 1) (if ok = true then (s.1 + e_n 1, if s.2 = e_n (-1) then e_n 10 * e_n (c : Nat) + e_n (o : Nat) else s.2) else s)).2))), mk G z2) := by
          intro h1 b1
          funext E
          have ca : c = 1 → a = 1 := fun h => by omega
          have hh := w2 o c (pzS B n fa)
          rw [sub1 o ho] at hh
          rw [sub1 o ho, g2 (1 - o) c (by omega) hc ca, e_rI_i, C286_175, g2 o c ho hc ca, e_rI_i, C286_185, e_n_succ]
          rw [b1] at okc okd
          by_cases hlt : v161 (fun _ _ => 0) (e_n (o : Nat)) (e_n (c : Nat)) (pzS B n fa) < v161 (fun _ _ => 0) (e_n ((1 - o : Nat) : Nat)) (e_n (c : Nat)) (pzS B n fa)
          · rw [if_pos hlt, if_pos hlt]
            exact no (okc (hh.mpr hlt))
          · rw [if_neg hlt, if_neg hlt]
            exact yes (okd h1 (fun q => hlt (hh.mp q)))
        have hbo : ¬ b = 1 → b = 0 ∧ o = 0 := fun h => by omega
        have e1b : (e_n (b : Nat) = e_n 1) ↔ b = 1 := by
          constructor
          · intro h
            have := (e_n_inj (a := b) (b := 1) (by omega) (by omega) (by omega) (by omega)).mp h
            omega
          · intro h; rw [h]; rfl
        have e1a : (e_n (a : Nat) = e_n 1) ↔ a = 1 := by
          constructor
          · intro h
            have := (e_n_inj (a := a) (b := 1) (by omega) (by omega) (by omega) (by omega)).mp h
            omega
          · intro h; rw [h]; rfl
        have fin : ¬ (v160 (fun _ _ => 0) (e_n (c : Nat)) (e_n (o : Nat)) (pzS B m fb) (e_n (a : Nat)) = 0) → ¬ b = 1 → ok = true := fun h hb1 => by
          obtain ⟨b0, o0⟩ := hbo hb1
          refine okd h ?_
          rw [b0, o0]
          exact w1 c _
        by_cases a1 : a = 1
        · have ob : o = 1 → b = 1 := fun h => by omega
          subst a1
          have hh := w2 c o (pzS B m fb)
          rw [sub1 c hc] at hh
          rw [if_pos (e1a.mpr rfl), sub1 c hc, g1 (1 - c) o (by omega) ho ob, e_rI_i, C286_144, g1 c o hc ho ob, e_rI_i, C286_154]
          by_cases hlt : v161 (fun _ _ => 0) (e_n (c : Nat)) (e_n (o : Nat)) (pzS B m fb) < v161 (fun _ _ => 0) (e_n ((1 - c : Nat) : Nat)) (e_n (o : Nat)) (pzS B m fb)
          · rw [if_pos hlt, e_n_succ]
            exact no (okb (hh.mpr hlt))
          · rw [if_neg hlt]
            have h1 := fun q => hlt (hh.mp q)
            by_cases b1 : b = 1
            · rw [if_pos (e1b.mpr b1), half h1 b1]
            · rw [if_neg (fun q => b1 (e1b.mp q)), e_n_succ]
              exact yes (fin h1 b1)
        · have a0 : a = 0 := by omega
          have c0 : c = 0 := by omega
          have h1 : ¬ (v160 (fun _ _ => 0) (e_n (c : Nat)) (e_n (o : Nat)) (pzS B m fb) (e_n (a : Nat)) = 0) := by rw [a0, c0]; exact w1 o _
          rw [if_neg (fun q => a1 (e1a.mp q))]
          by_cases b1 : b = 1
          · rw [if_pos (e1b.mpr b1), half h1 b1]
          · rw [if_neg (fun q => b1 (e1b.mp q))]
            exact yes (fin h1 b1)
    have hpre := up 4 0 (e_n 0, e_n (-1)) .null .null (by decide)
    rw [C286_45, if_neg (by decide), c284h (d := d + 8) wb rb hM, e_rI_i, hf1, C286_55, c284h (d := d + 8) wb rb hM, e_rI_i, hf2, C286_71, ta, tb]
    exact hpre
theorem X162 {d : Nat} {I : Nat → Nat → Int32} {z : e_Z} {B : e_B} (H : Rel I z B) {x x2 x3 : Int32} : FaceX (fun e => e ≤ 1) d (e_n 2) I z 162 289 [.int x, .int x2, .int x3] := by
  have wb := rel_wb H
  have wb1 : bMa B ≤ 3 := wb.1
  have wb4 : bPe B ≤ 9 := wb.2.2.2.1
  have hb := B2_bd z.2.1.1
  have hbl := B2_le hb
  by_cases hw : x3 < 0 ∨ ¬ x3 < e_n ((3 : Nat) : Nat)
  · refine throw_pX (by decide) H ?_ ?_
    · refine (e_E_11 (d := d + 9) (y := 162) rfl).trans ?_
      show e_L (d + 9) 162 0 [.ref 1, .int x, .int x2, .int x3] [] (mk I z) = _
      rw [C162_0, if_pos (show x3 < 0 ∨ ¬ x3 < e_n 3 from hw)]; rfl
    · intro J z2 HJ
      refine ⟨e_n 0, e_E_ret (d := d + 9) ?_⟩
      show e_L (d + 9) 289 0 [.ref 489, .int x, .int x2, .int x3, .null, .null] [] (mk J z2) = _
      rw [C289_0, c246n (x2 := e_n 2) (k := 2) rfl (by decide) K0 hw, e_rI_i, C289_11, if_pos (by decide)]
  have pre : ∀ (J : Nat → Nat → Int32) (z2 : e_Z), e_L (d + 9) 289 0 [.ref 489, .int x, .int x2, .int x3, .null, .null] [] (mk J z2) = e_L (d + 9) 289 11 [.ref 489, .int x, .int x2, .int x3, .null, .null] [.int (e_n 1)] (mk (e_u J 489 0 (e_n 0)) z2) := by
    intro J z2
    rw [C289_0, c246y (x2 := e_n 2) (k := 2) rfl (by decide) K0 hw, e_rI_i]
  by_cases hn : x2 < 0 ∨ e_n 60 < x2
  · refine throw_qX (by decide) H ?_ ?_
    · refine (e_E_11 (d := d + 9) (y := 162) rfl).trans ?_
      show e_L (d + 9) 162 0 [.ref 1, .int x, .int x2, .int x3] [] (mk I z) = _
      rw [C162_0, if_neg (show ¬ (x3 < 0 ∨ ¬ x3 < e_n 3) from hw)]
      by_cases h1 : x2 < 0
      · rw [if_pos h1]; rfl
      · rw [if_neg h1, if_pos (hn.resolve_left h1)]; rfl
    · intro J z2 HJ
      refine ⟨e_n 0, e_E_ret (d := d + 9) ?_⟩
      show e_L (d + 9) 289 0 [.ref 489, .int x, .int x2, .int x3, .null, .null] [] (mk J z2) = _
      rw [pre, C289_11, if_neg (by decide), right_n K0 (fun q => hn.elim q.1 q.2) (by decide), e_rI_i, C289_26, if_pos (by decide)]
  obtain ⟨w, hw3, rfl⟩ := in_n (by decide) hw
  obtain ⟨n, hn61, rfl⟩ := in_n (x := x2) (n := 61) (by decide) (fun h => hn (by
    rcases h with h | h
    · exact Or.inl h
    · right
      have := most_n (x := x2) (k := 60) (by decide)
      rw [this, Decidable.not_not] at h
      exact h))
  have hn60 : n ≤ 60 := by omega
  generalize hq0 : loS B n (x, begF (I 515)) = Q
  have wmQ : WM B (Q.2 0) := by rw [← hq0]; exact wm_lo wb (wm_fl wb (rel_wm H))
  obtain ⟨I1, a1, a2, a3⟩ := c41h (d := d + 3) (z := z) (x := x) hb wb (rel_bc H) (rel_mc H) (rel_wm H) hn60
  rw [hq0] at a2
  have hdead : ∀ i, 9 ≤ i → bt (Q.2 0 1) i = false := fun i hi => wmQ.2.2.2.2.2.1 i (by omega)
  have hdb : v58 I1 484 (bd z.2.1.1) = dbS B (Q.2 0) := by
    unfold v58 dbS
    rw [a3 _ (by omega), (rel_bc H).1, e_n_nat' (by omega)]
    apply itr_congr
    intro m s hm
    rw [show (484 + 4 : Nat) = 488 from rfl, rd_N (r := 488) (Nat.lt_of_lt_of_le hm (Nat.le_trans wb1 (by decide))), a2.2.2.2.2.2.1 m hm]
  refine face_rdX H (r := .inl (if w = 0 then bc (Q.2 0 1) else if w = 1 then dbS B (Q.2 0) else Q.2 4 1)) (I1 := I1) (zs_rf z) rfl ?_ (fun r hr => a3 r (by unfold ScrC at hr; omega)) ?_
  · refine e_E_ret (d := d + 9) ?_
    show e_L (d + 9) 162 0 [.ref 1, .int x, .int (e_n (n : Nat)), .int (e_n (w : Nat))] [] (mk I z) = _
    rw [C162_0, if_neg (show ¬ (e_n (w : Nat) < 0 ∨ ¬ e_n (w : Nat) < e_n 3) from hw), if_neg (fun h => hn (Or.inl h)), if_neg (fun h => hn (Or.inr h)), a1, e_rV_n, C162_46, a2.2.1, c329, e_rI_i, v329_bc hdead, C162_85, hdb, a2.2.2.2.2.2.2.2]
    match w, hw3 with
    | 0, _ => rfl
    | 1, _ => rfl
    | 2, _ => rfl
    | _ + 3, h => omega
  · intro J z2 HJ hq
    obtain ⟨t, ht, hd⟩ := rel_day H
    have hqq : ∀ j, j < 34 → e_u J 489 0 (e_n 0) 515 j = I 515 j := fun j _ => by rw [K515 (by decide), hq 515 (by decide)]
    obtain ⟨J1, b1, b2, b3, b4⟩ := c235h (d := d + 7) (z := z2) hqq
    obtain ⟨r1, r2, r3, r4, r5, r6, r7⟩ := b2
    have rb := RB_0 (v := e_n 0) (rel_rb HJ)
    generalize hG : e_u J1 489 79 x = G
    have hGr : RfE J G := by
      rw [← hG]
      refine RfE_tr (RfE_0 (v := e_n 0)) (RfE_tr (b := J1) ⟨fun r h1 h2 => b3 r h1 (fun q => h2 (by unfold ScrR; omega)) (fun q => h2 (by unfold ScrR; omega)) (fun q => h2 (by unfold ScrR; omega)), fun j hj => b4 j (fun q => hj (by unfold ScrF; omega)) (fun q => hj (by unfold ScrF; omega))⟩ (RfE_u (by unfold ScrF; omega)))
    have hGB : RB G B := by
      rw [← hG]
      refine RB_fr (fun k k1 k2 => by rw [e_u_ne (by omega), b4 k (by omega) (by omega)]) (fun q q1 q2 => by rw [e_u_na (by omega), b3 q (by omega) (by omega) (by omega) (by omega)]) rb
    have hG0 : G 489 0 = e_n 0 := by rw [← hG, e_u_ne (by decide), b4 0 (by decide) (by decide), K0]
    have hLR : LR G B (x, begF (I 515)) t := by
      rw [← hG]
      refine ⟨e_u_same, ?_, ?_, ?_, ?_⟩
      · rw [e_u_ne (by decide), r3]; rfl
      · intro j hj j0 jj
        rw [e_u_na (by decide), r1 j hj]
        show I 515 j = flM (I 515) j
        rw [flM_o j0 jj]
      · intro p hp
        rw [e_u_na (by decide), r1 (4 + p) (by omega)]
        show I 515 (4 + p) = _ ↔ flM (I 515) (4 + p) = _
        rw [flM_l hp]
      · rw [e_u_na (by decide), r1 0 (by decide)]; exact hd
    -- the mornings
    have fin : ∀ (K : Nat → Nat → Int32) (D : Nat) (u : Value), LR K B Q D → RB K B → e_L (d + 9) 289 79 [.ref 489, .int x, .int (e_n (n : Nat)), .int (e_n (w : Nat)), .int (e_n 0), .int (e_n 0)] [] (mk K z2) = some (.inl (some (.int (if w = 0 then bc (Q.2 0 1) else if w = 1 then dbS B (Q.2 0) else Q.2 4 1))), mk K z2) := by
      intro K D u hL hB
      have hma : K 489 1 = e_n (bMa B : Nat) := hB.1
      have sum : ∀ k m (s : Int32), m + k = bMa B → e_L (d + 9) 289 79 [.ref 489, .int x, .int (e_n (n : Nat)), .int (e_n (w : Nat)), .int s, .int (e_n (m : Nat))] [] (mk K z2) = e_L (d + 9) 289 79 [.ref 489, .int x, .int (e_n (n : Nat)), .int (e_n (w : Nat)), .int (itr (fun m q => q + Q.2 0 (31 + m)) k m s), .int (e_n (bMa B : Nat))] [] (mk K z2) := by
        intro k
        induction k with
        | zero => intro m s hm; rw [show m = bMa B by omega]; rfl
        | succ k ih =>
          intro m s hm
          rw [C289_79 (fun _ => ixI (a := 31) (by omega) (by decide)), if_pos (by rw [hma, e_n_ltN (by omega) (by omega)]; omega), show (e_n 31 + e_n (m : Nat)).toNatClampNeg = 31 + m from ix (a := 31) (by omega), hL.2.2.1 (31 + m) (by omega) (by omega) (by omega), e_n_succ]
          exact ih (m + 1) _ (by omega)
      have s0 := sum (bMa B) 0 (e_n 0) (by omega)
      have hnl : ¬ e_n (bMa B : Nat) < K 489 1 := by rw [hma, e_n_ltN (by omega) (by omega)]; omega
      refine s0.trans ?_
      rw [C289_79 (fun h => absurd h hnl), if_neg hnl, hL.2.2.1 1 (by decide) (by decide) (by decide), v181_bc, hL.2.1]
      match w, hw3 with
      | 0, _ => rfl
      | 1, _ => rfl
      | 2, _ => rfl
      | _ + 3, h => omega
    have fr2 : ∀ K, LRf G K → RfE J K := fun K h => RfE_tr hGr ⟨fun r h1 h2 => h.1 r h1 (fun q => h2 (by unfold ScrR; omega)) (fun q => h2 (by unfold ScrR; omega)), fun j hj => h.2 j (fun q => hj (by unfold ScrF; omega)) (fun q => hj (by unfold ScrF; omega))⟩
    have main : ∃ K, e_L (d + 9) 289 43 [.ref 489, .int x, .int (e_n (n : Nat)), .int (e_n (w : Nat)), .int (e_n 0), .null] [] (mk G z2) = some (.inl (some (.int (if w = 0 then bc (Q.2 0 1) else if w = 1 then dbS B (Q.2 0) else Q.2 4 1))), mk K z2) ∧ LRf G K := by
      have hma : ∀ K : Nat → Nat → Int32, RB K B → K 489 1 = e_n (bMa B : Nat) := fun K hB => hB.1
      have hpe : ∀ K : Nat → Nat → Int32, RB K B → K 489 4 = e_n (bPe B : Nat) := fun K hB => hB.2.2.2.1
      have pos0 : ∀ k : Nat, k < 1000 → ((0 : Int32) < e_n (k : Nat)) = (0 < k) := fun k hk => by rw [show (0 : Int32) = e_n ((0 : Nat) : Nat) from rfl, e_n_ltN (by omega) (by omega)]
      by_cases hz : bMa B = 0 ∨ bPe B = 0
      · have hQ : Q = (x, begF (I 515)) := by rw [← hq0]; unfold loS; rw [if_pos hz]
        refine ⟨G, ?_, fun _ _ _ _ => rfl, fun _ _ _ => rfl⟩
        have hf := fin G t .null (by rw [hQ]; exact hLR) hGB
        rw [C289_43, hma G hGB, hpe G hGB]
        by_cases h1 : e_n 0 < e_n (n : Nat)
        · rw [if_pos h1]
          rcases hz with hz | hz
          · rw [if_neg (by rw [pos0 _ (by omega)]; omega)]; exact hf
          · by_cases h2 : (0 : Int32) < e_n (bMa B : Nat)
            · rw [if_pos h2, if_neg (by rw [pos0 _ (by omega)]; omega)]; exact hf
            · rw [if_neg h2]; exact hf
        · rw [if_neg h1]; exact hf
      · have hQ : Q = itr (fun _ => daS B) n 0 (x, begF (I 515)) := by rw [← hq0]; unfold loS; rw [if_neg hz]
        have hm0 : 0 < bMa B := by omega
        have hp0 : 0 < bPe B := by omega
        have loop : ∀ k i (q : Int32 × e_T) (K : Nat → Nat → Int32), i + k = n → itr (fun _ => daS B) k i q = Q → LR K B q (t + i) → RB K B → WM B (q.2 0) → LRf G K → ∃ K', e_L (d + 9) 289 43 [.ref 489, .int x, .int (e_n (n : Nat)), .int (e_n (w : Nat)), .int (e_n (i : Nat)), .null] [] (mk K z2) = some (.inl (some (.int (if w = 0 then bc (Q.2 0 1) else if w = 1 then dbS B (Q.2 0) else Q.2 4 1))), mk K' z2) ∧ LRf G K' := by
          intro k
          induction k with
          | zero =>
            intro i q K hi hQq hL hB wm hf
            have : i = n := by omega
            subst this
            refine ⟨K, ?_, hf⟩
            rw [C289_43, if_neg (by rw [e_n_ltN (by omega) (by omega)]; omega)]
            have hq : q = Q := hQq
            exact fin K _ .null (by rw [← hq]; exact hL) hB
          | succ k ih =>
            intro i q K hi hQq hL hB wm hf
            obtain ⟨K1, g1, g2, g3, g4⟩ := c288h (d := d + 5) (z := z2) wb (show t + i < 1000 by omega) hm0 hp0 hB hL wm
            obtain ⟨K2, k1, k2⟩ := ih (i + 1) (daS B q) K1 (by omega) hQq (by rw [show t + (i + 1) = t + i + 1 by omega]; exact g2) (LRf_RB g4 hB) g3 (LRf_tr hf g4)
            refine ⟨K2, ?_, k2⟩
            rw [C289_43, if_pos (by rw [e_n_ltN (by omega) (by omega)]; omega), hma K hB, hpe K hB, if_pos (by rw [pos0 _ (by omega)]; exact hm0), if_pos (by rw [pos0 _ (by omega)]; exact hp0), g1, e_rV_n, C289_67, e_n_succ]
            exact k1
        exact loop n 0 (x, begF (I 515)) G (by omega) hQ.symm hLR hGB (wm_fl wb (rel_wm H)) ⟨fun _ _ _ _ => rfl, fun _ _ _ => rfl⟩
    obtain ⟨K, m1, m2⟩ := main
    refine ⟨K, _, e_E_ret (d := d + 9) ?_, fr2 K m2, ?_, rfl⟩
    · show e_L (d + 9) 289 0 [.ref 489, .int x, .int (e_n (n : Nat)), .int (e_n (w : Nat)), .null, .null] [] (mk J z2) = _
      rw [pre, C289_11, if_neg (by decide), right_y K0 ⟨fun h => hn (Or.inl h), fun h => hn (Or.inr h)⟩, e_rI_i, C289_26, if_neg (by decide), b1, e_rV_n, C289_35, hG]
      exact m1
    · rw [m2.2 0 (by decide) (by decide)]; exact hG0
end S99s
