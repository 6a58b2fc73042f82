/-! close, spared: the faces; instead -/
section S91
theorem CfE_tr {z z' : e_Z} {a b c : Nat → Nat → Int32} (hz : z'.2.1.1 = z.2.1.1) (h : CfE z a b) (g : CfE z' b c) : CfE z a c := fun r hr => by
  have hr' : ¬ ScrC z' r := by unfold ScrC at *; rw [hz]; exact hr
  rw [g r hr', h r hr]
def cloS (B : e_B) (M : Nat → Int32) (x : Int32) (t n : Nat) : Nat → Int32
  | 0 => if x < bc (clS B M n 0 0 1) then e_n (-1) else e_n ((t + 0 : Nat) : Nat)
  | c + 1 => if x < bc (clS B M n (c + 1) 0 1) then cloS B M x t n c else e_n ((t + (c + 1) : Nat) : Nat)
theorem dead9 {B : e_B} {S : e_T} (wb : WB B) (ws : WS B S) : ∀ i, 9 ≤ i → bt (S 0 1) i = false := fun i hi => ws.1.2.2.2.2.2.1 i (by have : bPe B ≤ 9 := wb.2.2.2.1; omega)
theorem F142 {d : Nat} {I : Nat → Nat → Int32} {z : e_Z} {B : e_B} (H : Rel I z B) {x : Int32} : Face d (e_n 1) I z 142 275 [.int x] := by
  have wb := rel_wb H
  obtain ⟨t, ht, hd⟩ := rel_day H
  by_cases hm : x < 0 ∨ e_n 9 < x
  · refine throw_q H ?_ ?_
    · refine (e_E_11 (d := d + 9) (y := 142) rfl).trans ?_
      show e_L (d + 9) 142 0 [.ref 1, .int x, .null, .null] [] (mk I z) = _
      rw [C142_0, if_pos hm]; rfl
    · intro J z2 HJ
      refine ⟨e_n 0, e_E_ret (d := d + 9) ?_⟩
      show e_L (d + 9) 275 0 [.ref 489, .int x, .null] [] (mk J z2) = _
      rw [C275_0, right_n K0 (fun q => hm.elim q.1 q.2) (by decide), e_rI_i, C275_17, if_pos (by decide)]
  generalize hn : min 30 (60 - t) = n
  have hn30 : n ≤ 30 := by omega
  have hda : I 51 0 = e_n (t : Nat) := by rw [(rel_mc H).1]; exact hd
  have hmn : e_min (e_n 30) (e_n 60 - I 51 0) = e_n (n : Nat) := by
    rw [hda, show e_n 60 - e_n (t : Nat) = e_n ((60 - t : Nat) : Nat) from by rw [e_n_sub]; congr 1; omega, show (e_n 30) = e_n ((30 : Nat) : Nat) from rfl, e_min_n (by omega) (by omega), hn]
  have cls : ∀ c, c ≤ n → ∀ (I' : Nat → Nat → Int32) (z' : e_Z), Rel I' z' B → I' 515 = I 515 → ∃ I1 z1, e_L (d + 9) 142 42 [.ref 1, .int x, .int (e_n (t : Nat)), .int (e_n (c : Nat))] [] (mk I' z') = some (.inl (some (.int (cloS B (I 515) x t n c))), mk I1 z1) ∧ CfE z' I' I1 ∧ zs z' z1 ∧ z1.2.1.1 = z'.2.1.1 := by
    intro c
    induction c with
    | zero =>
      intro hc I' z' H' hM
      obtain ⟨I1, a1, a2, a3⟩ := c144h (d := d + 2) (c := 0) H' ht (by rw [hM]; exact hd) (by omega)
      rw [hM, hn] at a1 a3
      refine ⟨I1, zF z' z'.2.1.1, ?_, a2, zs_F z', rfl⟩
      rw [C142_42, if_neg (by decide), a1, e_rI_i, C142_51, c329, e_rI_i, v329_bc (dead9 wb a3), C142_54]
      unfold cloS
      by_cases h : x < bc (clS B (I 515) n 0 0 1)
      · rw [if_pos h, if_pos h, C142_42, if_pos (by decide)]
      · rw [if_neg h, if_neg h, e_n_add]; rfl
    | succ c ih =>
      intro hc I' z' H' hM
      obtain ⟨I1, a1, a2, a3⟩ := c144h (d := d + 2) (c := c + 1) H' ht (by rw [hM]; exact hd) (by omega)
      rw [hM, hn] at a1 a3
      have hsc := bd_cases z'
      have H1 : Rel I1 (zF z' z'.2.1.1) B := Rel_c rfl a2 H'
      have hpos : ¬ e_n ((c + 1 : Nat) : Nat) < 0 := by rw [show (0 : Int32) = e_n ((0 : Nat) : Nat) from rfl, e_n_ltN (by omega) (by omega)]; omega
      rw [C142_42, if_neg hpos, a1, e_rI_i, C142_51, c329, e_rI_i, v329_bc (dead9 wb a3), C142_54]
      unfold cloS
      by_cases h : x < bc (clS B (I 515) n (c + 1) 0 1)
      · rw [if_pos h, if_pos h, show e_n ((c + 1 : Nat) : Nat) + e_n (-1) = e_n (c : Nat) from by rw [e_n_add]; congr 1; omega]
        obtain ⟨I2, z2, b1, b2, b3, b4⟩ := ih (by omega) I1 (zF z' z'.2.1.1) H1 (by rw [a2 515 (by unfold ScrC; omega)]; exact hM)
        exact ⟨I2, z2, b1, CfE_tr (z' := zF z' z'.2.1.1) rfl a2 b2, ⟨b3.1, b3.2⟩, b4⟩
      · rw [if_neg h, if_neg h]
        refine ⟨I1, zF z' z'.2.1.1, ?_, a2, zs_F z', rfl⟩
        rw [e_n_add]; congr 5
  obtain ⟨I1, z1, a1, a2, a3, a4⟩ := cls n (Nat.le_refl _) I z H rfl
  refine face_rd H (r := .inl (cloS B (I 515) x t n n)) (I1 := I1) a3 a4 (e_E_ret (d := d + 9) ?_) a2 ?_
  · show e_L (d + 9) 142 0 [.ref 1, .int x, .null, .null] [] (mk I z) = _
    rw [C142_0, if_neg hm, hmn, hda]
    exact a1
  · intro J z2 HJ hq
    have hK : e_u J 489 0 (e_n 0) 515 = I 515 := by rw [K515 (by decide), hq 515 (by decide)]
    have rfs : ∀ c, c ≤ n → ∀ J' : Nat → Nat → Int32, Rel J' z2 B → J' 515 = I 515 → ∃ I2, e_L (d + 9) 275 27 [.ref 489, .int x, .int (e_n (c : Nat))] [] (mk J' z2) = some (.inl (some (.int (cloS B (I 515) x t n c))), mk I2 z2) ∧ RfE J' I2 ∧ I2 489 0 = J' 489 0 := by
      intro c
      induction c with
      | zero =>
        intro hc J' H' hM
        obtain ⟨I2, b1, b2, b3, b4⟩ := c274h (d := d + 2) (c := 0) (M := I 515) H' hM ht hd (by omega)
        rw [hn] at b1
        refine ⟨I2, ?_, b2, b3⟩
        rw [C275_27, if_neg (by decide), b1, e_rI_i, C275_36, v181_bc, b4, hd]
        unfold cloS
        by_cases h : x < bc (clS B (I 515) n 0 0 1)
        · rw [if_pos h, if_pos h, C275_27, if_pos (by decide)]
        · rw [if_neg h, if_neg h, e_n_add]; rfl
      | succ c ih =>
        intro hc J' H' hM
        obtain ⟨I2, b1, b2, b3, b4⟩ := c274h (d := d + 2) (c := c + 1) (M := I 515) H' hM ht hd (by omega)
        rw [hn] at b1
        have hpos : ¬ e_n ((c + 1 : Nat) : Nat) < 0 := by rw [show (0 : Int32) = e_n ((0 : Nat) : Nat) from rfl, e_n_ltN (by omega) (by omega)]; omega
        rw [C275_27, if_neg hpos, b1, e_rI_i, C275_36, v181_bc, b4, hd]
        unfold cloS
        by_cases h : x < bc (clS B (I 515) n (c + 1) 0 1)
        · rw [if_pos h, if_pos h, show e_n ((c + 1 : Nat) : Nat) + e_n (-1) = e_n (c : Nat) from by rw [e_n_add]; congr 1; omega]
          obtain ⟨I3, g1, g2, g3⟩ := ih (by omega) I2 (Rel_r rfl b2.1 b2.2 H') b4
          exact ⟨I3, g1, RfE_tr b2 g2, by rw [g3, b3]⟩
        · rw [if_neg h, if_neg h]
          refine ⟨I2, ?_, b2, b3⟩
          rw [e_n_add]; congr 5
    obtain ⟨I2, b1, b2, b3⟩ := rfs n (Nat.le_refl _) (e_u J 489 0 (e_n 0)) (Rel_K HJ) hK
    have hv : v236 (e_u J 489 0 (e_n 0)) = e_n (n : Nat) := by rw [v236_n ht (by rw [hK]; exact hd), hn]
    refine ⟨I2, cloS B (I 515) x t n n, e_E_ret (d := d + 9) ?_, RfE_tr RfE_0 b2, by rw [b3, e_u_same], rfl⟩
    show e_L (d + 9) 275 0 [.ref 489, .int x, .null] [] (mk J z2) = _
    rw [C275_0, right_y K0 ⟨fun h => hm (Or.inl h), fun h => hm (Or.inr h)⟩, e_rI_i, C275_17, if_neg (by decide), hv]
    exact b1
theorem F143 {d : Nat} {c1 : Int32} {I : Nat → Nat → Int32} {z : e_Z} {B : e_B} (H : Rel I z B) : Face d c1 I z 143 276 [] := by
  have wb := rel_wb H
  obtain ⟨t, ht, hd⟩ := rel_day H
  generalize hn : min 30 (60 - t) = n
  have hn30 : n ≤ 30 := by omega
  obtain ⟨I1, a1, a2, a3⟩ := c144h (d := d + 2) (c := 0) H ht hd (by omega)
  have hsc := bd_cases z
  have H1 : Rel I1 (zF z z.2.1.1) B := Rel_c rfl a2 H
  have h515 : I1 515 = I 515 := a2 515 (by unfold ScrC; omega)
  obtain ⟨I2, b1, b2, b3, b4⟩ := lkC (d := d + 2) H1 ht (by rw [h515]; exact hd)
  rw [hn] at a1
  rw [h515, hn] at b2
  have hcl : clS B (I 515) n 30 = foS B (I 515) n := by unfold clS; rw [if_neg (by omega)]
  refine face_rd H (r := .inl (foS B (I 515) n 0 1 &&& (clS B (I 515) n 0 0 1 ^^^ e_n (-1)))) (I1 := I2) (z1 := zF (zF z z.2.1.1) z.2.1.1) ⟨rfl, rfl⟩ rfl (e_E_ret (d := d + 9) ?_) (CfE_tr (z' := zF z z.2.1.1) rfl a2 b4) ?_
  · show e_L (d + 9) 143 0 [.ref 1, .null] [] (mk I z) = _
    rw [C143_0, show (e_n 0) = e_n ((0 : Nat) : Nat) from rfl, a1, e_rI_i, C143_5, b1, e_rV_n, C143_10, b2.1.2.2.1]
    rfl
  · intro J z2 HJ hq
    have hK : e_u J 489 0 (e_n 0) 515 = I 515 := by rw [K515 (by decide), hq 515 (by decide)]
    obtain ⟨J1, g1, g2, g3, g4⟩ := c274h (d := d + 2) (c := 30) (M := I 515) (Rel_K (v := e_n 0) HJ) hK ht hd (by omega)
    obtain ⟨J2, x1, x2, x3, x4⟩ := c274h (d := d + 2) (c := 0) (M := I 515) (Rel_r rfl g2.1 g2.2 (Rel_K (v := e_n 0) HJ)) g4 ht hd (by omega)
    rw [hn] at g1 x1
    rw [hcl] at g1
    refine ⟨J2, foS B (I 515) n 0 1 &&& (clS B (I 515) n 0 0 1 ^^^ e_n (-1)), e_E_ret (d := d + 9) ?_, RfE_tr RfE_0 (RfE_tr g2 x2), by rw [x3, g3, e_u_same], rfl⟩
    show e_L (d + 9) 276 0 [.ref 489, .null] [] (mk J z2) = _
    rw [C276_0, show (e_n 30) = e_n ((30 : Nat) : Nat) from rfl, g1, e_rI_i, C276_11, show (e_n 0) = e_n ((0 : Nat) : Nat) from rfl, x1, e_rI_i, C276_18]
-- were WRITES for that one never more than 0
theorem i32lt {a b : Int32} : (a < b) = (a.toInt < b.toInt) := propext Int32.lt_iff_toInt_lt
theorem chS_skip {B : e_B} {M : Nat → Int32} {m p : Nat} (wb4 : bPe B ≤ 9) (hp : p < bPe B) (h : ¬ (chS B (e_n (-1)) M m).1 = e_n (p : Nat)) : chS B (e_n (p : Nat)) M m = chS B (e_n (-1)) M m := by
  have key : ∀ k, k ≤ bPe B → itr (fun i (q : Int32 × Int32) => if e_n (i : Nat) = e_n (p : Nat) then q else if M (4 + i) = e_n (-1) then (if q.2 < grS B M m i then (e_n (i : Nat), grS B M m i) else q) else q) k 0 (e_n (-1), e_n 0) = itr (fun i (q : Int32 × Int32) => if e_n (i : Nat) = e_n (-1) then q else if M (4 + i) = e_n (-1) then (if q.2 < grS B M m i then (e_n (i : Nat), grS B M m i) else q) else q) k 0 (e_n (-1), e_n 0) ∨ ((itr (fun i (q : Int32 × Int32) => if e_n (i : Nat) = e_n (-1) then q else if M (4 + i) = e_n (-1) then (if q.2 < grS B M m i then (e_n (i : Nat), grS B M m i) else q) else q) k 0 (e_n (-1), e_n 0)).1 = e_n (p : Nat) ∧ p < k ∧ ¬ (itr (fun i (q : Int32 × Int32) => if e_n (i : Nat) = e_n (-1) then q else if M (4 + i) = e_n (-1) then (if q.2 < grS B M m i then (e_n (i : Nat), grS B M m i) else q) else q) k 0 (e_n (-1), e_n 0)).2 < (itr (fun i (q : Int32 × Int32) => if e_n (i : Nat) = e_n (p : Nat) then q else if M (4 + i) = e_n (-1) then (if q.2 < grS B M m i then (e_n (i : Nat), grS B M m i) else q) else q) k 0 (e_n (-1), e_n 0)).2) := by
    intro k
    induction k with
    | zero => intro _; exact Or.inl rfl
    | succ k ih =>
      intro hk
      have ih := ih (by omega)
      rw [itr_succ, itr_succ, Nat.zero_add]
      generalize itr (fun i (q : Int32 × Int32) => if e_n (i : Nat) = e_n (p : Nat) then q else if M (4 + i) = e_n (-1) then (if q.2 < grS B M m i then (e_n (i : Nat), grS B M m i) else q) else q) k 0 (e_n (-1), e_n 0) = q' at ih ⊢
      generalize itr (fun i (q : Int32 × Int32) => if e_n (i : Nat) = e_n (-1) then q else if M (4 + i) = e_n (-1) then (if q.2 < grS B M m i then (e_n (i : Nat), grS B M m i) else q) else q) k 0 (e_n (-1), e_n 0) = q at ih ⊢
      have hn1 : ¬ e_n (k : Nat) = e_n (-1) := e_n_neg1 (by omega)
      have hkp : (e_n (k : Nat) = e_n (p : Nat)) = (k = p) := by rw [e_n_inj (by omega) (by omega) (by omega) (by omega)]; apply propext; omega
      rw [if_neg hn1]
      by_cases hk2 : k = p
      · subst hk2
        rw [if_pos rfl]
        have he := ih.resolve_right (fun h => by omega)
        subst he
        by_cases hu : M (4 + k) = e_n (-1)
        · rw [if_pos hu]
          by_cases hc : q'.2 < grS B M m k
          · rw [if_pos hc]
            refine Or.inr ⟨rfl, by omega, ?_⟩
            rw [i32lt] at hc ⊢
            show ¬ (grS B M m k).toInt < q'.2.toInt
            omega
          · rw [if_neg hc]; exact Or.inl rfl
        · rw [if_neg hu]; exact Or.inl rfl
      · rw [if_neg (fun q => hk2 (hkp.mp q))]
        by_cases hu : M (4 + k) = e_n (-1)
        · rw [if_pos hu, if_pos hu]
          rcases ih with he | ⟨h1, h2, h3⟩
          · subst he; exact Or.inl rfl
          · rw [i32lt] at h3
            by_cases hc : q.2 < grS B M m k
            · have hc' : q'.2 < grS B M m k := by rw [i32lt] at hc ⊢; omega
              rw [if_pos hc, if_pos hc']; exact Or.inl rfl
            · rw [if_neg hc]
              rw [i32lt] at hc
              by_cases hc' : q'.2 < grS B M m k
              · rw [if_pos hc']
                refine Or.inr ⟨h1, by omega, ?_⟩
                rw [i32lt]; exact hc
              · rw [if_neg hc']
                refine Or.inr ⟨h1, by omega, ?_⟩
                rw [i32lt]; exact h3
        · rw [if_neg hu, if_neg hu]
          rcases ih with he | ⟨h1, h2, h3⟩
          · exact Or.inl he
          · exact Or.inr ⟨h1, by omega, h3⟩
  rcases key (bPe B) (Nat.le_refl _) with h1 | ⟨h1, -, -⟩
  · exact h1
  · exact absurd h1 h
end S91
