section EC3
/-- a call: own's number, pool number, (y, rc, np, rk), place of the link, whether a nest mate's -/
def e_mrc (o idx : Nat) (v : Nat × Nat × Nat × Nat) (z : Nat × Nat) : Bool :=
  bif Nat.beq v.1 9000 then decide (lw_tbl[z.1]? = some (.methodLink (e_on o) idx objectInit))
  else bif Nat.beq v.1 9001 then decide (lw_tbl[z.1]? = some (.methodLink (e_on o) idx arraycopyName))
  else bif Nat.beq v.1 9002 then decide (lw_tbl[z.1]? = some (.methodLink (e_on o) idx Lib.Math.max.name))
  else bif Nat.beq v.1 9003 then decide (lw_tbl[z.1]? = some (.methodLink (e_on o) idx Lib.Math.min.name))
  else bif Nat.beq v.1 9004 then Nat.beq o 7 && Nat.beq idx 61
  else decide (lw_tbl[z.1]? = some (bif Nat.beq z.2 0 then .methodLink (e_on o) idx (e_yn v.1) else .methodLinkNest (e_on o) idx (e_yn v.1) "WhiteBoard")) && Nat.blt v.1 338 && (e_not.all fun k => !Nat.beq k v.1) && (match e_mp v.1 with | some q => (bif Nat.beq v.2.1 0 then Nat.beq q.2.1 0 else Nat.beq q.2.1 1) | none => false)
    && decide ((parseMethodDescriptor (e_yn v.1).desc).map (fun d => d.parameters.length) = some v.2.2.1) && Nat.beq v.2.2.2 (e_rk v.1) && Nat.ble (v.2.2.1 + 1) (e_mL v.1 + (bif Nat.beq v.2.1 0 then 1 else 0))
    && (Nat.beq v.2.1 0 || (bif Nat.beq v.2.1 41 then decide ((e_yn v.1).cls = "java/lang/String") else match vwCl[v.2.1 - 1]? with | some r => decide (r.1 = (e_yn v.1).cls) | none => false))
    && (Nat.beq z.2 0 || Nat.beq v.2.1 0 || decide ((e_yn v.1).name = "<init>")) && (Nat.beq v.2.1 0 || decide ((e_yn v.1).name = "<init>") || (match e_mp v.1 with | some q => Nat.blt q.2.2.2.1 9999 | none => false)) && (Nat.beq z.2 0 || (e_hh v.1).isEmpty) && (Nat.beq z.2 0 || decide ((e_yn v.1).name = "<init>") || (!Nat.beq o 11 && !Nat.beq o 13))
def e_mrA (o : Nat) : Bool := Nat.beq (e_mr o).length (e_mrp o).length && ((e_mr o).zip (e_mrp o)).all (fun q => e_mrc o q.1.1 q.1.2 q.2)
theorem e_mrA_0 : e_mrA 0 = true := by decide +kernel
theorem e_mrA_1 : e_mrA 1 = true := by decide +kernel
theorem e_mrA_2 : e_mrA 2 = true := by decide +kernel
theorem e_mrA_3 : e_mrA 3 = true := by decide +kernel
theorem e_mrA_4 : e_mrA 4 = true := by decide +kernel
theorem e_mrA_5 : e_mrA 5 = true := by decide +kernel
theorem e_mrA_6 : e_mrA 6 = true := by decide +kernel
theorem e_mrA_7 : e_mrA 7 = true := by decide +kernel
theorem e_mrA_8 : e_mrA 8 = true := by decide +kernel
theorem e_mrA_9 : e_mrA 9 = true := by decide +kernel
theorem e_mrA_10 : e_mrA 10 = true := by decide +kernel
theorem e_mrA_11 : e_mrA 11 = true := by decide +kernel
theorem e_mrA_12 : e_mrA 12 = true := by decide +kernel
theorem e_mrA_13 : e_mrA 13 = true := by decide +kernel
theorem e_mrA_14 : e_mrA 14 = true := by decide +kernel
theorem e_mrA_15 : e_mrA 15 = true := by decide +kernel
theorem e_mrA_16 : e_mrA 16 = true := by decide +kernel
theorem e_mrA_17 : e_mrA 17 = true := by decide +kernel
theorem e_mrA_18 : e_mrA 18 = true := by decide +kernel
theorem e_mrA_19 : e_mrA 19 = true := by decide +kernel
theorem e_mrA_20 : e_mrA 20 = true := by decide +kernel
theorem e_mrA_ok : ∀ o, o < 21 → e_mrA o = true := fun o h => by
  match o, h with
  | 0, _ => exact e_mrA_0
  | 1, _ => exact e_mrA_1
  | 2, _ => exact e_mrA_2
  | 3, _ => exact e_mrA_3
  | 4, _ => exact e_mrA_4
  | 5, _ => exact e_mrA_5
  | 6, _ => exact e_mrA_6
  | 7, _ => exact e_mrA_7
  | 8, _ => exact e_mrA_8
  | 9, _ => exact e_mrA_9
  | 10, _ => exact e_mrA_10
  | 11, _ => exact e_mrA_11
  | 12, _ => exact e_mrA_12
  | 13, _ => exact e_mrA_13
  | 14, _ => exact e_mrA_14
  | 15, _ => exact e_mrA_15
  | 16, _ => exact e_mrA_16
  | 17, _ => exact e_mrA_17
  | 18, _ => exact e_mrA_18
  | 19, _ => exact e_mrA_19
  | 20, _ => exact e_mrA_20
  | n + 21, hn => exact absurd hn (by omega)
theorem e_mp_ok {y cp inst kp se ini : Nat} (h : e_mp y = some (cp, inst, kp, se, ini)) : (inst = 0 → Cond.static (e_yn y) ∈ e_U) ∧ (inst ≠ 0 → Cond.instanceMethod (e_yn y) ∈ e_U) ∧ (se ≠ 99999 → Cond.selects (e_yn y).cls (e_yn y) (e_yn y) ∈ e_U) ∧ Cond.initialized (e_yn y).cls ∈ e_U ∧ plainFor (e_yn y) = true ∧ ((e_yn y).cls ≠ "java/lang/invoke/MethodHandle" ∧ (e_yn y).cls ≠ "java/lang/invoke/VarHandle") ∧ e_own y < 21 ∧ e_on (e_own y) = (e_yn y).cls ∧ e_mL y ≤ 20 := by
  have h1 := e_mpk_ok _ (e_look_mem h)
  unfold e_mpk at h1
  simp only [Bool.and_eq_true, Bool.or_eq_true, decide_eq_true_eq] at h1
  obtain ⟨⟨⟨⟨⟨⟨⟨⟨⟨g1, g2⟩, g3⟩, g4⟩, g5⟩, g6⟩, g7⟩, g8⟩, g9⟩, g10⟩ := h1
  refine ⟨fun hi => ?_, fun hi => ?_, fun hs => ?_, e_U_at g4 rfl, g5, ⟨g6, g7⟩, ?_, g9, Nat.le_of_ble_eq_true g10⟩
  · rw [hi] at g2; exact e_U_at g2 rfl
  · rw [show Nat.beq inst 0 = false from by cases inst with | zero => exact absurd rfl hi | succ n => rfl] at g2
    exact e_U_at g2 rfl
  · rcases g3 with q | q
    · exact absurd (Nat.eq_of_beq_eq_true q) hs
    · exact e_U_at q rfl
  · exact Nat.lt_of_succ_le (Nat.le_of_ble_eq_true g8)
theorem e_beq_f {a b : Nat} (h : a ≠ b) : Nat.beq a b = false := by
  cases hb : Nat.beq a b with
  | false => rfl
  | true => exact absurd (Nat.eq_of_beq_eq_true hb) h
/-- a call by its pool number -/
theorem e_mr_ok {o idx y rc np rk : Nat} (ho : o < 21) (h : e_look (e_mr o) idx = some (y, rc, np, rk)) (hy : y < 9000) :
    (Cond.methodLink (e_on o) idx (e_yn y) ∈ e_U ∨ (Cond.methodLinkNest (e_on o) idx (e_yn y) "WhiteBoard" ∈ e_NWd ∧ (rc = 0 ∨ (e_yn y).name = "<init>") ∧ e_hh y = [] ∧ ((e_yn y).name = "<init>" ∨ (o ≠ 11 ∧ o ≠ 13)))) ∧ y < 338 ∧ (∀ k, k ∈ e_not → y ≠ k) ∧ (∃ cp inst kp se ini, e_mp y = some (cp, inst, kp, se, ini) ∧ (rc = 0 → inst = 0) ∧ (rc ≠ 0 → inst ≠ 0) ∧ (rc ≠ 0 → (e_yn y).name = "<init>" ∨ se ≠ 99999)) ∧ (parseMethodDescriptor (e_yn y).desc).map (fun d => d.parameters.length) = some np ∧ rk = e_rk y ∧ (rc = 0 → np ≤ e_mL y) ∧ (rc ≠ 0 → np + 1 ≤ e_mL y) ∧
    (rc = 0 ∨ (rc = 41 ∧ (e_yn y).cls = "java/lang/String") ∨ (rc ≠ 41 ∧ ∃ r : vw_C, vwCl[rc - 1]? = some r ∧ r.1 = (e_yn y).cls)) := by
  have h1 := e_mrA_ok o ho
  unfold e_mrA at h1
  rw [Bool.and_eq_true] at h1
  obtain ⟨z, hz⟩ := e_zip_at (Nat.eq_of_beq_eq_true h1.1) (e_look_mem h)
  have h2 := List.all_eq_true.mp h1.2 _ hz
  unfold e_mrc at h2
  dsimp only at h2
  rw [e_beq_f (show y ≠ 9000 by omega), e_beq_f (show y ≠ 9002 by omega), e_beq_f (show y ≠ 9003 by omega), e_beq_f (show y ≠ 9004 by omega), e_beq_f (show y ≠ 9001 by omega)] at h2
  simp only [cond_false, Bool.and_eq_true, Bool.or_eq_true, decide_eq_true_eq] at h2
  obtain ⟨⟨⟨⟨⟨⟨⟨⟨⟨⟨⟨g1, g2⟩, g3⟩, g4⟩, g5⟩, g6⟩, g7⟩, g8⟩, g9⟩, g10⟩, g11⟩, g12⟩ := h2
  refine ⟨?_, Nat.lt_of_succ_le (Nat.le_of_ble_eq_true g2), fun k hk => ?_, ?_, g5, Nat.eq_of_beq_eq_true g6, fun hr => ?_, fun hr => ?_, ?_⟩
  · by_cases hn : z.2 = 0
    · rw [hn] at g1; exact Or.inl (e_U_at g1 rfl)
    · rw [e_beq_f hn] at g1
      refine Or.inr ⟨e_NW_at g1 rfl, ?_, ?_, ?_⟩
      rotate_left
      rotate_left
      · rcases g12 with (q | q) | q
        · exact absurd (Nat.eq_of_beq_eq_true q) hn
        · exact Or.inl q
        · refine Or.inr ⟨fun e => ?_, fun e => ?_⟩
          · rw [e] at q; simp at q
          · rw [e] at q; simp at q
      rotate_left
      · rcases g11 with q | q
        · exact absurd (Nat.eq_of_beq_eq_true q) hn
        · exact List.isEmpty_iff.mp q
      rcases g9 with (q | q) | q
      · exact absurd (Nat.eq_of_beq_eq_true q) hn
      · exact Or.inl (Nat.eq_of_beq_eq_true q)
      · exact Or.inr q
  · have := List.all_eq_true.mp g3 k hk
    intro e
    subst e
    simp at this
  · cases hm : e_mp y with
    | none => rw [hm] at g4; cases g4
    | some q =>
      obtain ⟨cp, inst, kp, se, ini⟩ := q
      rw [hm] at g4 g10
      refine ⟨cp, inst, kp, se, ini, rfl, fun hr => ?_, fun hr => ?_, fun hr => ?_⟩
      · subst hr; exact Nat.eq_of_beq_eq_true g4
      · rw [e_beq_f hr] at g4
        have := Nat.eq_of_beq_eq_true g4
        dsimp only at this
        omega
      · rcases g10 with (q | q) | q
        · exact absurd (Nat.eq_of_beq_eq_true q) hr
        · exact Or.inl q
        · have := Nat.le_of_ble_eq_true q
          dsimp only at this
          exact Or.inr (by omega)
  · subst hr
    have := Nat.le_of_ble_eq_true g7
    simpa using this
  · rw [e_beq_f hr] at g7
    have := Nat.le_of_ble_eq_true g7
    simpa using this
  · rcases g8 with q | q
    · exact Or.inl (Nat.eq_of_beq_eq_true q)
    · by_cases h41 : rc = 41
      · subst h41; exact Or.inr (Or.inl ⟨rfl, of_decide_eq_true q⟩)
      · rw [e_beq_f h41] at q
        dsimp only [cond_false] at q
        split at q
        · rename_i r hr
          exact Or.inr (Or.inr ⟨h41, r, hr, of_decide_eq_true q⟩)
        · cases q
/-- the special calls -/
theorem e_mr_sp {o idx y rc np rk : Nat} (ho : o < 21) (h : e_look (e_mr o) idx = some (y, rc, np, rk)) : (y = 9000 → Cond.methodLink (e_on o) idx objectInit ∈ e_U) ∧ (y = 9001 → Cond.methodLink (e_on o) idx arraycopyName ∈ e_U) ∧ (y = 9002 → Cond.methodLink (e_on o) idx Lib.Math.max.name ∈ e_U) ∧ (y = 9003 → Cond.methodLink (e_on o) idx Lib.Math.min.name ∈ e_U) ∧ (y = 9004 → o = 7 ∧ idx = 61) := by
  have h1 := e_mrA_ok o ho
  unfold e_mrA at h1
  rw [Bool.and_eq_true] at h1
  obtain ⟨z, hz⟩ := e_zip_at (Nat.eq_of_beq_eq_true h1.1) (e_look_mem h)
  have h2 := List.all_eq_true.mp h1.2 _ hz
  unfold e_mrc at h2
  dsimp only at h2
  refine ⟨fun e => ?_, fun e => ?_, fun e => ?_, fun e => ?_, fun e => ?_⟩ <;> subst e
  · exact e_U_at (of_decide_eq_true h2) rfl
  · exact e_U_at (of_decide_eq_true h2) rfl
  · exact e_U_at (of_decide_eq_true h2) rfl
  · exact e_U_at (of_decide_eq_true h2) rfl
  · have h3 : (Nat.beq o 7 && Nat.beq idx 61) = true := h2
    rw [Bool.and_eq_true] at h3
    exact ⟨Nat.eq_of_beq_eq_true h3.1, Nat.eq_of_beq_eq_true h3.2⟩
/-- which kind of call stands where -/
def e_row2 (m : Nat) (q : Nat × Instr × Nat × Nat) : Bool := match q.2.1 with
  | .invokestatic idx => (match e_look (e_mr (e_own m)) idx with
    | some (y, rc, _, _) => (Nat.blt y 9000 && Nat.beq rc 0) || Nat.beq y 9001 || Nat.beq y 9002 || Nat.beq y 9003
    | none => true)
  | .invokevirtual idx => (match e_look (e_mr (e_own m)) idx with
    | some (y, rc, _, _) => (Nat.blt y 9000 && Nat.blt 0 rc && decide ((e_yn y).name ≠ "<init>") && (e_hh y).isEmpty) || Nat.beq y 9004
    | none => true)
  | .invokespecial idx => (match e_look (e_mr (e_own m)) idx with
    | some (y, rc, _, _) => (Nat.blt y 9000 && Nat.blt 0 rc && decide ((e_yn y).name = "<init>") && (e_hh y).isEmpty && (e_rt y).isNone) || Nat.beq y 9000
    | none => true)
  | _ => true
def e_rows2 (a k : Nat) : Bool := (List.range k).all (fun j => (e_tab (a + j)).all (e_row2 (a + j)))
theorem e_r2_0 : e_rows2 0 13 = true := by decide +kernel
theorem e_r2_1 : e_rows2 13 13 = true := by decide +kernel
theorem e_r2_2 : e_rows2 26 13 = true := by decide +kernel
theorem e_r2_3 : e_rows2 39 13 = true := by decide +kernel
theorem e_r2_4 : e_rows2 52 13 = true := by decide +kernel
theorem e_r2_5 : e_rows2 65 13 = true := by decide +kernel
theorem e_r2_6 : e_rows2 78 13 = true := by decide +kernel
theorem e_r2_7 : e_rows2 91 13 = true := by decide +kernel
theorem e_r2_8 : e_rows2 104 13 = true := by decide +kernel
theorem e_r2_9 : e_rows2 117 13 = true := by decide +kernel
theorem e_r2_10 : e_rows2 130 13 = true := by decide +kernel
theorem e_r2_11 : e_rows2 143 13 = true := by decide +kernel
theorem e_r2_12 : e_rows2 156 13 = true := by decide +kernel
theorem e_r2_13 : e_rows2 169 13 = true := by decide +kernel
theorem e_r2_14 : e_rows2 182 13 = true := by decide +kernel
theorem e_r2_15 : e_rows2 195 13 = true := by decide +kernel
theorem e_r2_16 : e_rows2 208 13 = true := by decide +kernel
theorem e_r2_17 : e_rows2 221 13 = true := by decide +kernel
theorem e_r2_18 : e_rows2 234 13 = true := by decide +kernel
theorem e_r2_19 : e_rows2 247 13 = true := by decide +kernel
theorem e_r2_20 : e_rows2 260 13 = true := by decide +kernel
theorem e_r2_21 : e_rows2 273 13 = true := by decide +kernel
theorem e_r2_22 : e_rows2 286 13 = true := by decide +kernel
theorem e_r2_23 : e_rows2 299 13 = true := by decide +kernel
theorem e_r2_24 : e_rows2 312 13 = true := by decide +kernel
theorem e_r2_25 : e_rows2 325 13 = true := by decide +kernel
theorem e_row2_ok (m : Nat) (h : m < 338) : (e_tab m).all (e_row2 m) = true := by
  have key : ∀ a, e_rows2 a 13 = true → a ≤ m → m < a + 13 → (e_tab m).all (e_row2 m) = true := by
    intro a ha h1 h2
    have := List.all_eq_true.mp ha (m - a) (List.mem_range.mpr (by omega))
    rw [show a + (m - a) = m by omega] at this
    exact this
  rcases Nat.lt_or_ge m 169 with h13 | h13
  · rcases Nat.lt_or_ge m 78 with h6 | h6
    · rcases Nat.lt_or_ge m 39 with h3 | h3
      · rcases Nat.lt_or_ge m 13 with h1 | h1
        · exact key 0 e_r2_0 (by omega) (by omega)
        · rcases Nat.lt_or_ge m 26 with h2 | h2
          · exact key 13 e_r2_1 (by omega) (by omega)
          · exact key 26 e_r2_2 (by omega) (by omega)
      · rcases Nat.lt_or_ge m 52 with h4 | h4
        · exact key 39 e_r2_3 (by omega) (by omega)
        · rcases Nat.lt_or_ge m 65 with h5 | h5
          · exact key 52 e_r2_4 (by omega) (by omega)
          · exact key 65 e_r2_5 (by omega) (by omega)
    · rcases Nat.lt_or_ge m 117 with h9 | h9
      · rcases Nat.lt_or_ge m 91 with h7 | h7
        · exact key 78 e_r2_6 (by omega) (by omega)
        · rcases Nat.lt_or_ge m 104 with h8 | h8
          · exact key 91 e_r2_7 (by omega) (by omega)
          · exact key 104 e_r2_8 (by omega) (by omega)
      · rcases Nat.lt_or_ge m 143 with h11 | h11
        · rcases Nat.lt_or_ge m 130 with h10 | h10
          · exact key 117 e_r2_9 (by omega) (by omega)
          · exact key 130 e_r2_10 (by omega) (by omega)
        · rcases Nat.lt_or_ge m 156 with h12 | h12
          · exact key 143 e_r2_11 (by omega) (by omega)
          · exact key 156 e_r2_12 (by omega) (by omega)
  · rcases Nat.lt_or_ge m 247 with h19 | h19
    · rcases Nat.lt_or_ge m 208 with h16 | h16
      · rcases Nat.lt_or_ge m 182 with h14 | h14
        · exact key 169 e_r2_13 (by omega) (by omega)
        · rcases Nat.lt_or_ge m 195 with h15 | h15
          · exact key 182 e_r2_14 (by omega) (by omega)
          · exact key 195 e_r2_15 (by omega) (by omega)
      · rcases Nat.lt_or_ge m 221 with h17 | h17
        · exact key 208 e_r2_16 (by omega) (by omega)
        · rcases Nat.lt_or_ge m 234 with h18 | h18
          · exact key 221 e_r2_17 (by omega) (by omega)
          · exact key 234 e_r2_18 (by omega) (by omega)
    · rcases Nat.lt_or_ge m 286 with h22 | h22
      · rcases Nat.lt_or_ge m 260 with h20 | h20
        · exact key 247 e_r2_19 (by omega) (by omega)
        · rcases Nat.lt_or_ge m 273 with h21 | h21
          · exact key 260 e_r2_20 (by omega) (by omega)
          · exact key 273 e_r2_21 (by omega) (by omega)
      · rcases Nat.lt_or_ge m 312 with h24 | h24
        · rcases Nat.lt_or_ge m 299 with h23 | h23
          · exact key 286 e_r2_22 (by omega) (by omega)
          · exact key 299 e_r2_23 (by omega) (by omega)
        · rcases Nat.lt_or_ge m 325 with h25 | h25
          · exact key 312 e_r2_24 (by omega) (by omega)
          · exact key 325 e_r2_25 (by omega) (by omega)
end EC3
