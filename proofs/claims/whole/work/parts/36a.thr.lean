section ET
def e_exn : List String := ["java/lang/RuntimeException", "java/lang/Exception"]
def e_thk (q : Cond × Nat) : Bool := decide (lw_tbl[q.2]? = some q.1) && (goodWord q.1 || e_nwk q.1) && vx_ot q.1
def e_i1 : List Nat := [134, 835, 844, 847, 850, 852, 836, 837, 153, 154, 838, 843, 848, 868, 825, 869, 827, 870, 829, 839, 841, 831, 864, 865, 867, 831, 855, 856, 857, 858, 817, 858, 859, 860, 861, 819, 861, 862, 863, 864, 821, 854, 814, 815, 822, 823, 824, 826, 828, 830, 834, 833, 832]
set_option maxRecDepth 20000 in
theorem e_thA1 : ((vx_atS "WhiteBoard" 88 e_IAE e_exn).zip e_i1).all e_thk = true := by decide +kernel
set_option maxRecDepth 20000 in
theorem e_thL1 : (vx_atS "WhiteBoard" 88 e_IAE e_exn).length = e_i1.length := by decide +kernel
def e_i0 : List Nat := [134, 835, 844, 847, 850, 852, 836, 837, 153, 154, 838, 843, 848, 868, 825, 869, 827, 870, 829, 839, 841, 831, 864, 865, 867, 831, 1187, 1188, 1189, 858, 817, 858, 859, 860, 861, 819, 861, 862, 863, 864, 821, 1186, 1177, 1178, 1179, 846, 1180, 1181, 1182, 1183, 834, 833, 1184]
def e_l0 : List Cond := (e_ownN "WhiteBoard" 164 e_NSE "java/lang/RuntimeException" 13 prog_32_method_4_code ["java/lang/Exception"]).filter vx_no
set_option maxRecDepth 20000 in
theorem e_thA0 : (e_l0.zip e_i0).all e_thk = true := by decide +kernel
set_option maxRecDepth 20000 in
theorem e_thL0 : e_l0.length = e_i0.length := by decide +kernel
theorem e_w_tk1 : Cond.classLink "WhiteBoard" 84 e_IAE ∈ e_U := e_U_at (i := 813) (by decide +kernel) (by rfl)
theorem e_w_ti1 : Cond.initialized e_IAE ∈ e_U := e_U_at (i := 137) (by decide +kernel) (by rfl)
theorem e_w_tk0 : Cond.classLink "WhiteBoard" 160 e_NSE ∈ e_U := e_U_at (i := 1176) (by decide +kernel) (by rfl)
theorem e_w_ti0 : Cond.initialized e_NSE ∈ e_U := e_U_at (i := 145) (by decide +kernel) (by rfl)
theorem e_th_w {L : List Cond} {I : List Nat} (hA : (L.zip I).all e_thk = true) (hl : L.length = I.length) {s : State} {args : Array Value} {G : e_G} (hts : ∀ w ∈ e_U, w.before args s = true) (KS : e_KS G s) : ∀ w ∈ L, w.before args s = true ∧ vx_ot w = true := by
  intro w hw
  obtain ⟨i, hi⟩ := e_zip_at hl hw
  have h := List.all_eq_true.mp hA _ hi
  unfold e_thk at h
  simp only [Bool.and_eq_true, Bool.or_eq_true, decide_eq_true_eq] at h
  obtain ⟨⟨h1, h2⟩, h3⟩ := h
  refine ⟨?_, h3⟩
  rcases h2 with h2 | h2
  · exact hts _ (e_U_at h1 h2)
  · exact e_KS.nw KS (e_NW_at h1 h2) args
/-- a throw's own instructions -/
def e_row4 (m : Nat) (q : Nat × Instr × Nat × Nat) : Bool := match q.2.1 with
  | .new idx => (match e_look (e_tht (e_own m)) idx with
    | some x => Nat.beq (e_own m) 11 && ((Nat.beq x 1 && Nat.beq idx 84) || (Nat.beq x 0 && Nat.beq idx 160)) && (match e_fetch m (q.1 + 3) with | some (.dup, 1, _) => true | _ => false) && (match e_fetch m (q.1 + 4) with
      | some (.ldc is, 2, _) => e_str.any (fun z => Nat.beq z.1 is) && (match e_fetch m (q.1 + 6) with | some (.invokespecial ic, 3, _) => Nat.beq ic (if x = 1 then 88 else 164) | _ => false) && (match e_fetch m (q.1 + 9) with | some (.athrow, 1, _) => true | _ => false)
      | some (.ldc_w is, 3, _) => e_str.any (fun z => Nat.beq z.1 is) && (match e_fetch m (q.1 + 7) with | some (.invokespecial ic, 3, _) => Nat.beq ic (if x = 1 then 88 else 164) | _ => false) && (match e_fetch m (q.1 + 10) with | some (.athrow, 1, _) => true | _ => false)
      | _ => false)
    | none => true)
  | _ => true
theorem e_r4_0 : (List.range 26).all (fun j => (e_tab (0 + j)).all (e_row4 (0 + j))) = true := by decide +kernel
theorem e_r4_1 : (List.range 26).all (fun j => (e_tab (26 + j)).all (e_row4 (26 + j))) = true := by decide +kernel
theorem e_r4_2 : (List.range 26).all (fun j => (e_tab (52 + j)).all (e_row4 (52 + j))) = true := by decide +kernel
theorem e_r4_3 : (List.range 26).all (fun j => (e_tab (78 + j)).all (e_row4 (78 + j))) = true := by decide +kernel
theorem e_r4_4 : (List.range 26).all (fun j => (e_tab (104 + j)).all (e_row4 (104 + j))) = true := by decide +kernel
theorem e_r4_5 : (List.range 26).all (fun j => (e_tab (130 + j)).all (e_row4 (130 + j))) = true := by decide +kernel
theorem e_r4_6 : (List.range 26).all (fun j => (e_tab (156 + j)).all (e_row4 (156 + j))) = true := by decide +kernel
theorem e_r4_7 : (List.range 26).all (fun j => (e_tab (182 + j)).all (e_row4 (182 + j))) = true := by decide +kernel
theorem e_r4_8 : (List.range 26).all (fun j => (e_tab (208 + j)).all (e_row4 (208 + j))) = true := by decide +kernel
theorem e_r4_9 : (List.range 26).all (fun j => (e_tab (234 + j)).all (e_row4 (234 + j))) = true := by decide +kernel
theorem e_r4_10 : (List.range 26).all (fun j => (e_tab (260 + j)).all (e_row4 (260 + j))) = true := by decide +kernel
theorem e_r4_11 : (List.range 26).all (fun j => (e_tab (286 + j)).all (e_row4 (286 + j))) = true := by decide +kernel
theorem e_r4_12 : (List.range 26).all (fun j => (e_tab (312 + j)).all (e_row4 (312 + j))) = true := by decide +kernel
theorem e_row4_ok (m : Nat) (h : m < 338) : (e_tab m).all (e_row4 m) = true := by
  have key : ∀ a, (List.range 26).all (fun j => (e_tab (a + j)).all (e_row4 (a + j))) = true → a ≤ m → m < a + 26 → (e_tab m).all (e_row4 m) = true := by
    intro a ha h1 h2
    have := List.all_eq_true.mp ha (m - a) (List.mem_range.mpr (by omega))
    rw [show a + (m - a) = m by omega] at this
    exact this
  rcases Nat.lt_or_ge m 156 with h6 | h6
  · rcases Nat.lt_or_ge m 78 with h3 | h3
    · rcases Nat.lt_or_ge m 26 with h1 | h1
      · exact key 0 e_r4_0 (by omega) (by omega)
      · rcases Nat.lt_or_ge m 52 with h2 | h2
        · exact key 26 e_r4_1 (by omega) (by omega)
        · exact key 52 e_r4_2 (by omega) (by omega)
    · rcases Nat.lt_or_ge m 104 with h4 | h4
      · exact key 78 e_r4_3 (by omega) (by omega)
      · rcases Nat.lt_or_ge m 130 with h5 | h5
        · exact key 104 e_r4_4 (by omega) (by omega)
        · exact key 130 e_r4_5 (by omega) (by omega)
  · rcases Nat.lt_or_ge m 234 with h9 | h9
    · rcases Nat.lt_or_ge m 182 with h7 | h7
      · exact key 156 e_r4_6 (by omega) (by omega)
      · rcases Nat.lt_or_ge m 208 with h8 | h8
        · exact key 182 e_r4_7 (by omega) (by omega)
        · exact key 208 e_r4_8 (by omega) (by omega)
    · rcases Nat.lt_or_ge m 286 with h11 | h11
      · rcases Nat.lt_or_ge m 260 with h10 | h10
        · exact key 234 e_r4_9 (by omega) (by omega)
        · exact key 260 e_r4_10 (by omega) (by omega)
      · rcases Nat.lt_or_ge m 312 with h12 | h12
        · exact key 286 e_r4_11 (by omega) (by omega)
        · exact key 312 e_r4_12 (by omega) (by omega)
theorem e_row4_inv {mi pc idx len tgt x : Nat} (hmi : mi < 338) (hf : e_fetch mi pc = some (.new idx, len, tgt)) (hx : e_look (e_tht (e_own mi)) idx = some x) : e_own mi = 11 ∧ ((x = 1 ∧ idx = 84) ∨ (x = 0 ∧ idx = 160)) ∧ decode (e_cb mi) pc = .ok (.new idx, 3) ∧ decode (e_cb mi) (pc + 3) = .ok (.dup, 1) ∧ ∃ is text, (is, text) ∈ e_str ∧ ((decode (e_cb mi) (pc + 4) = .ok (.ldc is, 2) ∧ decode (e_cb mi) (pc + 6) = .ok (.invokespecial (if x = 1 then 88 else 164), 3) ∧ decode (e_cb mi) (pc + 9) = .ok (.athrow, 1)) ∨ (decode (e_cb mi) (pc + 4) = .ok (.ldc_w is, 3) ∧ decode (e_cb mi) (pc + 7) = .ok (.invokespecial (if x = 1 then 88 else 164), 3) ∧ decode (e_cb mi) (pc + 10) = .ok (.athrow, 1))) := by
  have h := List.all_eq_true.mp (e_row4_ok mi hmi) _ (e_look_mem hf)
  obtain ⟨hdec, hlen, -⟩ := e_row_at hmi hf
  have hl3 : len = 3 := by rcases hlen with q | q; exact absurd q (by simp [e_ln]); exact q
  subst hl3
  unfold e_row4 at h
  dsimp only at h
  rw [hx] at h
  simp only [Bool.and_eq_true, Bool.or_eq_true] at h
  obtain ⟨⟨⟨g1, g2⟩, g3⟩, g4⟩ := h
  refine ⟨Nat.eq_of_beq_eq_true g1, ?_, hdec, ?_, ?_⟩
  · rcases g2 with ⟨a, b⟩ | ⟨a, b⟩
    · exact Or.inl ⟨Nat.eq_of_beq_eq_true a, Nat.eq_of_beq_eq_true b⟩
    · exact Or.inr ⟨Nat.eq_of_beq_eq_true a, Nat.eq_of_beq_eq_true b⟩
  · split at g3
    · rename_i hq
      exact (e_row_at hmi hq).1
    · cases g3
  · split at g4
    · rename_i is _ hq
      simp only [Bool.and_eq_true] at g4
      obtain ⟨⟨k1, k2⟩, k3⟩ := g4
      obtain ⟨z, hz, hz2⟩ := List.any_eq_true.mp k1
      have ez := Nat.eq_of_beq_eq_true hz2
      refine ⟨is, z.2, by rw [← ez]; exact hz, Or.inl ⟨(e_row_at hmi hq).1, ?_, ?_⟩⟩
      · split at k2
        · rename_i hq2
          rw [← Nat.eq_of_beq_eq_true k2]
          exact (e_row_at hmi hq2).1
        · cases k2
      · split at k3
        · rename_i hq3
          exact (e_row_at hmi hq3).1
        · cases k3
    · rename_i is _ hq
      simp only [Bool.and_eq_true] at g4
      obtain ⟨⟨k1, k2⟩, k3⟩ := g4
      obtain ⟨z, hz, hz2⟩ := List.any_eq_true.mp k1
      have ez := Nat.eq_of_beq_eq_true hz2
      refine ⟨is, z.2, by rw [← ez]; exact hz, Or.inr ⟨(e_row_at hmi hq).1, ?_, ?_⟩⟩
      · split at k2
        · rename_i hq2
          rw [← Nat.eq_of_beq_eq_true k2]
          exact (e_row_at hmi hq2).1
        · cases k2
      · split at k3
        · rename_i hq3
          exact (e_row_at hmi hq3).1
        · cases k3
    · cases g4
theorem e_hh11 {m : Nat} (h : m < 338) (ho : e_own m = 11) : e_hh m = [] := by
  have hA := List.all_eq_true.mp e_hdA m (List.mem_range.mpr h)
  unfold e_hdc at hA
  simp only [Bool.and_eq_true, Bool.or_eq_true] at hA
  rcases hA.2 with z | z
  · exact List.isEmpty_iff.mp z
  · exact absurd (Nat.eq_of_beq_eq_true z) (by omega)
section Thr
variable {p : Program} {l : Launch} {e : Env} {R : Room} {s : State} {m : MethodId} {args : Array Value} {below : List Frame} {meth : Method} {c : Code} {A : Nat → Prop}
variable {y d : Nat} {σ : e_S} {r : e_O × e_S} {G : e_G} {ad : Nat → Nat} {Qc : Array Value → State → Outcome → State → Prop} {XC : String → State → State → Prop}
def e_EndX (G : e_G) (ad : Nat → Nat) (σ : e_S) (sz : Nat) (r : e_O × e_S) (XC : String → State → State → Prop) : Prop := ∀ x, r.1 = .inr x → XC = e_Xc G ad σ sz x r.2
theorem e_nt_all (C : e_Cx p l R s m args meth c y d G ad σ A r) (hA : A = va_A (e_w G ad σ) s.heap.size) (hlocks : meth.locks = false) (hX : e_EndX G ad σ s.heap.size r XC) : e_Nt p l e R s m args below meth c (vx_MQ below Qc XC args s (e_c r.2 - e_c σ) (e_s r.2 - e_s σ) A) y G ad σ A r := by
  obtain ⟨F, KS, SS, hCon, hR, hRm, hmi, htb, hlt⟩ := id C
  obtain ⟨hx, hb, hml, hown, hts, hlk, hnm, hrt, ho⟩ := id F
  intro pc idx len tgt x st σ1 ad1 LS ST H locs cells slots hf hq hr hw9 hSR hsz I
  obtain ⟨⟨hK, hP, hD, hS, hw, hA1⟩, hag, hl0, hc, hs⟩ := I
  subst hr
  have hX1 := hX x rfl
  subst hX1
  subst hA
  obtain ⟨h11, hxi, d0, d3, is, text, hstr, hd⟩ := e_row4_inv hmi hf hq
  have htab : ∀ (k : Nat), ∀ z ∈ c.exceptionTable.toList, covers z k = false := fun k z hz => by
    rcases htb with h5 | htb
    · rw [h5] at h11
      exact absurd (show (13 : Nat) = 11 from h11) (by decide)
    rw [htb, e_hh11 hmi h11] at hz
    cases hz
  rw [h11] at hown
  replace hown : s.vm.findClass "WhiteBoard" = some m.cls := hown
  have hcat := e_SR_cat hSR
  obtain ⟨sa, hsa⟩ := KS.2.2.1 _ hstr
  obtain ⟨S1, S2, S3, S4, S5, S6, S7, S8, S9, S10, S11, S12, S13, S14⟩ := SS
  have hm1 : cells + 1 ≤ e_c (e_exc σ1) - e_c σ := by show cells + 1 ≤ (e_c σ1 + 1) - e_c σ; omega
  have hm2 : slots + 6 ≤ e_s (e_exc σ1) - e_s σ := by show slots + 6 ≤ (e_s σ1 + 6) - e_s σ; omega
  have hm3 : cells + 1 ≤ R.cells := by have : e_c σ1 + 1 ≤ e_c σ + R.cells := hRm.1; omega
  have hm4 : slots + 6 ≤ R.slots := by have : e_s σ1 + 6 ≤ e_s σ + R.slots := hRm.2; omega
  have hend : ∀ t : State, s.vm.Alike t.vm → H.size ≤ t.heap.size → (∀ q : Nat, q < H.size → t.heap[q]? = H[q]?) → e_Xc G ad σ s.heap.size x (e_exc σ1) (e_xn x) s t := by
    intro t _ h1 h2
    refine ⟨rfl, ⟨ad1, hag, fun i z hz => ?_, hD, hw⟩, Nat.le_trans hS.1 h1, fun q hq1 hq2 => ?_⟩
    · have h3 := hP i z hz
      exact h3.kept (h2 _ h3.lt)
    · rw [h2 q (Nat.lt_of_lt_of_le hq1 hS.1)]
      exact hS.2.1 q hq1 hq2
  rcases hxi with ⟨rfl, rfl⟩ | ⟨rfl, rfl⟩
  · have hat := e_th_w e_thA1 e_thL1 hts KS
    have hgood : ∀ w ∈ Cond.classLink "WhiteBoard" 84 e_IAE :: Cond.initialized e_IAE :: vx_atS "WhiteBoard" 88 e_IAE e_exn, vx_ot w = true := by
      intro w hw
      rcases List.mem_cons.mp hw with rfl | hw
      · rfl
      · rcases List.mem_cons.mp hw with rfl | hw
        · rfl
        · exact (hat w hw).2
    rcases hd with ⟨d4, d6, d9⟩ | ⟨d4, d7, d10⟩
    · exact vx_throwS (own := "WhiteBoard") (cls := e_IAE) (names := e_exn) (ik := 84) (is := is) (ic := 88) hx hb hlt hown (by decide +kernel) (by decide +kernel) (hts _ e_w_tk1) (hts _ e_w_ti1) hsa (fun w hw => (hat w hw).1) hgood S13 S14 hS (by rw [hml, hsz]) d0 d3 d4 d6 d9 (htab _) (by show 2 + 3 < R.frames; omega) (by show _ + (13 * (2 + 1) + 43) ≤ R.locals; omega) hm3 hm4 hlocks hend hS.2.2 hm1 hm2
    · exact vx_throwSW (own := "WhiteBoard") (cls := e_IAE) (names := e_exn) (ik := 84) (is := is) (ic := 88) hx hb hlt hown (by decide +kernel) (by decide +kernel) (hts _ e_w_tk1) (hts _ e_w_ti1) hsa (fun w hw => (hat w hw).1) hgood S13 S14 hS (by rw [hml, hsz]) d0 d3 d4 d7 d10 (htab _) (by show 2 + 3 < R.frames; omega) (by show _ + (13 * (2 + 1) + 43) ≤ R.locals; omega) hm3 hm4 hlocks hend hS.2.2 hm1 hm2
  · have hat : ∀ w ∈ e_l0, w.before args s = true ∧ vx_ot w = true := e_th_w e_thA0 e_thL0 hts KS
    rcases hd with ⟨d4, d6, d9⟩ | ⟨d4, d7, d10⟩
    · exact e_throwN (k := 6) (own := "WhiteBoard") (cls := e_NSE) (Y := "java/lang/RuntimeException") (names := ["java/lang/Exception"]) (ik := 160) (is := is) (ic := 164) (ix := 13) (bytes := prog_32_method_4_code) hx hb hlt hown (by decide +kernel) (by decide +kernel) (by decide +kernel) (by decide +kernel) (by decide +kernel) (by decide +kernel) (by decide +kernel) (hts _ e_w_tk0) (hts _ e_w_ti0) hsa hat rfl rfl S13 S14 hS (by rw [hml, hsz]) d0 d3 (Or.inl ⟨d4, rfl⟩) d6 d9 (htab _) (by show 1 + 4 < R.frames; omega) (by show _ + (13 * (1 + 2) + 43) ≤ R.locals; omega) hm3 hm4 hlocks hend hS.2.2 hm1 hm2
    · exact e_throwN (k := 7) (own := "WhiteBoard") (cls := e_NSE) (Y := "java/lang/RuntimeException") (names := ["java/lang/Exception"]) (ik := 160) (is := is) (ic := 164) (ix := 13) (bytes := prog_32_method_4_code) hx hb hlt hown (by decide +kernel) (by decide +kernel) (by decide +kernel) (by decide +kernel) (by decide +kernel) (by decide +kernel) (by decide +kernel) (hts _ e_w_tk0) (hts _ e_w_ti0) hsa hat rfl rfl S13 S14 hS (by rw [hml, hsz]) d0 d3 (Or.inr ⟨d4, rfl⟩) d7 d10 (htab _) (by show 1 + 4 < R.frames; omega) (by show _ + (13 * (1 + 2) + 43) ≤ R.locals; omega) hm3 hm4 hlocks hend hS.2.2 hm1 hm2
end Thr
end ET
