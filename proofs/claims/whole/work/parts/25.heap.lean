section EH
/-- what an activation of method mi stands on -/
def e_Fix (p : Program) (s : State) (m : MethodId) (args : Array Value) (meth : Method) (c : Code) (mi : Nat) : Prop :=
  p.tables.exec = Jvm.exec ∧ c.code = e_cb mi ∧ c.maxLocals = e_mL mi ∧ s.vm.findClass (e_on (e_own mi)) = some m.cls ∧ (∀ w ∈ e_U, w.before args s = true) ∧ meth.locks = false ∧ ((e_yn mi).name = "<init>" → meth.name = "<init>") ∧ meth.sig.returnType = e_rt mi ∧ e_own mi < 21
/-- the world at a place -/
def e_At (G : e_G) (ad : Nat → Nat) (σ : e_S) (A : Nat → Prop) (s : State) (H : Heap) (locs : List Loc) : Prop :=
  va_K G.1 vwCl (e_tys G) s ∧ va_P G.1 vwCl (e_w G ad σ) H ∧ va_D A (e_w G ad σ) ∧ va_S A s.heap H locs ∧ e_WF σ ∧ (∀ q, s.heap.size ≤ q → A q)
/-- a field's value in the picture -/
def e_fv (σ : e_S) (a k ty : Nat) : Value := if ty = 2 then .long (e_J σ a k) else if ty = 3 then .ref (e_F σ a k) else .int (e_I σ a k)
theorem e_vl_VR {ad : Nat → Nat} {σ : e_S} {a k ty : Nat} (hw : e_WF σ) (h1 : 1 ≤ a) (h2 : a ≤ σ.1) : e_VR σ.1 ad (e_fv σ a k ty) (e_vl ad σ a k ty) := by
  unfold e_fv e_vl
  by_cases ha : ty = 2
  · rw [if_pos ha, if_pos ha]; exact rfl
  · rw [if_neg ha, if_neg ha]
    by_cases hb : ty = 3
    · rw [if_pos hb, if_pos hb]
      unfold e_qo
      rcases hw a k h1 h2 with h0 | h0
      · rw [if_pos h0]; exact Or.inl ⟨h0, rfl⟩
      · rw [if_neg (e_ok_ne h0)]; exact Or.inr ⟨h0, rfl⟩
    · rw [if_neg hb, if_neg hb]; exact rfl
theorem e_qo_VR {ad : Nat → Nat} {σ : e_S} {a k : Nat} (hw : e_WF σ) (h1 : 1 ≤ a) (h2 : a ≤ σ.1) : e_VR σ.1 ad (.ref (e_F σ a k)) (va_rf (e_qo ad (e_F σ a k))) := by
  unfold e_qo
  rcases hw a k h1 h2 with h0 | h0
  · rw [if_pos h0]; exact Or.inl ⟨h0, rfl⟩
  · rw [if_neg (e_ok_ne h0)]; exact Or.inr ⟨h0, rfl⟩
theorem e_w_s20 {G : e_G} {ad : Nat → Nat} {σ σ' : e_S} {a : Nat} {f : Nat → Int32} (a1 : 1 ≤ a) (a2 : a ≤ σ.1) (a3 : (σ.2.1 a).1 = 20) (hN : σ'.1 = σ.1) (hsh : σ'.2.1 = σ.2.1) (hf : f = e_I σ' a) (he : ∀ b, b ≠ a → e_en G ad σ' b = e_en G ad σ b) : (e_w G ad σ).set (a - 1) (ad a, .inl (G.2.1, e_l σ a, .inl f)) = e_w G ad σ' := by
  refine e_w_set a1 a2 hN ?_ he
  rw [e_en_20 (σ := σ') (by rw [hsh]; exact a3), hf]
  unfold e_l; rw [hsh]
theorem e_w_s21 {G : e_G} {ad : Nat → Nat} {σ σ' : e_S} {a : Nat} {f : Nat → Int32} (a1 : 1 ≤ a) (a2 : a ≤ σ.1) (a3 : (σ.2.1 a).1 = 21) (hN : σ'.1 = σ.1) (hsh : σ'.2.1 = σ.2.1) (hf : f = e_I σ' a) (he : ∀ b, b ≠ a → e_en G ad σ' b = e_en G ad σ b) : (e_w G ad σ).set (a - 1) (ad a, .inl (G.2.2.1, e_l σ a, .inl f)) = e_w G ad σ' := by
  refine e_w_set a1 a2 hN ?_ he
  rw [e_en_21 (σ := σ') (by rw [hsh]; exact a3), hf]
  unfold e_l; rw [hsh]
theorem e_w_s22 {G : e_G} {ad : Nat → Nat} {σ σ' : e_S} {a : Nat} {f : Nat → Int64} (a1 : 1 ≤ a) (a2 : a ≤ σ.1) (a3 : (σ.2.1 a).1 = 22) (hN : σ'.1 = σ.1) (hsh : σ'.2.1 = σ.2.1) (hf : f = e_J σ' a) (he : ∀ b, b ≠ a → e_en G ad σ' b = e_en G ad σ b) : (e_w G ad σ).set (a - 1) (ad a, .inl (G.2.2.2.1, e_l σ a, .inr (.inl f))) = e_w G ad σ' := by
  refine e_w_set a1 a2 hN ?_ he
  rw [e_en_22 (σ := σ') (by rw [hsh]; exact a3), hf]
  unfold e_l; rw [hsh]
theorem e_w_s23 {G : e_G} {ad : Nat → Nat} {σ σ' : e_S} {a : Nat} {f : Nat → Option Nat} (a1 : 1 ≤ a) (a2 : a ≤ σ.1) (a3 : (σ.2.1 a).1 = 23) (hN : σ'.1 = σ.1) (hsh : σ'.2.1 = σ.2.1) (hf : f = fun k => e_qo ad (e_F σ' a k)) (he : ∀ b, b ≠ a → e_en G ad σ' b = e_en G ad σ b) : (e_w G ad σ).set (a - 1) (ad a, .inl (G.2.2.2.2, e_l σ a, .inr (.inr (.inr (.inr f))))) = e_w G ad σ' := by
  refine e_w_set a1 a2 hN ?_ he
  rw [e_en_23 (σ := σ') (by rw [hsh]; exact a3), hf]
  unfold e_l; rw [hsh]
theorem e_m_aI : Cond.arrayClass .int ∈ e_U := e_U_at (i := 200) (by decide +kernel) rfl
theorem e_m_aZ : Cond.arrayClass .boolean ∈ e_U := e_U_at (i := 1832) (by decide +kernel) rfl
theorem e_m_aJ : Cond.arrayClass .long ∈ e_U := e_U_at (i := 2304) (by decide +kernel) rfl
section Steps3
variable {p : Program} {l : Launch} {e : Env} {R : Room} {s : State} {m : MethodId} {args : Array Value} {below : List Frame} {meth : Method} {c : Code} {H : Heap} {locs : List Loc} {cells slots : Nat} {Q : State → Prop}
variable {mi pc : Nat} {LS : Array Slot} {ad : Nat → Nat} {σ : e_S} {G : e_G} {A : Nat → Prop} {ST : List Value}
theorem e_s_get (F : e_Fix p s m args meth c mi) (X : e_At G ad σ A s H locs) {idx kd k ty a : Nat} (hd : decode (e_cb mi) pc = .ok (.getfield idx, 3)) (h : e_look (e_fr (e_own mi)) idx = some (kd, k, ty)) (hc : kd < 20) (hk : e_k σ a = kd)
    (kk : ∀ w, e_VR σ.1 ad (e_fv σ a k ty) w → W p l e R s m args below meth c H locs cells slots Q (F0 m (pc + 3) LS (w :: ST))) : W p l e R s m args below meth c H locs cells slots Q (F0 m pc LS (.ref (ad a) :: ST)) := by
  obtain ⟨hx, hb, hml, hown, hts, hlk, hnm, hrt, ho⟩ := F
  obtain ⟨hK, hP, hD, hS, hw, hA⟩ := X
  obtain ⟨r, h1, hr, hkr, hcl, hty, hlink⟩ := e_fr_ok ho h (by omega)
  obtain ⟨a1, a2, a3⟩ := e_k_inv hk (by omega)
  obtain ⟨g1, g2, g3, g4, g5, g6, g7⟩ := e_cl_ok hr
  have hlen : k < (e_cf kd).length := by rw [← Nat.sub_add_cancel h1, g5]; exact hkr
  refine va_get (D := G.1) (ci := kd - 1) (C := r.1) (T := r.2.1) (N := r.2.2) (v := e_vl ad σ a k ty) hx hb hts g1 hown hK hP (a - 1) ((e_w_at a1 a2).trans (by rw [e_en_obj a3 hc])) hr k hkr (hts _ hlink) (fun x hx => by rw [hcl] at hx; exact hx) ?_ hd (kk _ (e_vl_VR hw a1 a2))
  rw [e_fs_at hlen, hty]
theorem e_s_put (F : e_Fix p s m args meth c mi) (X : e_At G ad σ A s H locs) {idx kd k ty a : Nat} {w : Value} {σ' : e_S} (hd : decode (e_cb mi) pc = .ok (.putfield idx, 3)) (h : e_look (e_fr (e_own mi)) idx = some (kd, k, ty)) (hc : kd < 20) (hk : e_k σ a = kd)
    (hfin : ∀ r : vw_C, vwCl[kd - 1]? = some r → (r.2.1 k).2.2.2 = false ∨ ((e_yn mi).name = "<init>" ∧ r.1 = e_on (e_own mi)))
    (hnw : ∀ t, e_tyc ty t = true → narrow t w = w ∧ fits t w = true) (hN : σ'.1 = σ.1) (hsh : σ'.2.1 = σ.2.1) (hw' : e_WF σ') (hv : w = e_vl ad σ' a k ty) (ho' : ∀ j t, j ≠ k → e_vl ad σ' a j t = e_vl ad σ a j t) (he : ∀ b, b ≠ a → e_en G ad σ' b = e_en G ad σ b)
    (kk : ∀ (H1 : Heap) (locs1 : List Loc), e_At G ad σ' A s H1 locs1 → W p l e R s m args below meth c H1 locs1 cells slots Q (F0 m (pc + 3) LS ST)) : W p l e R s m args below meth c H locs cells slots Q (F0 m pc LS (w :: .ref (ad a) :: ST)) := by
  obtain ⟨hx, hb, hml, hown, hts, hlk, hnm, hrt, ho⟩ := F
  obtain ⟨hK, hP, hD, hS, hw, hA⟩ := X
  obtain ⟨r, h1, hr, hkr, hcl, hty, hlink⟩ := e_fr_ok ho h (by omega)
  obtain ⟨a1, a2, a3⟩ := e_k_inv hk (by omega)
  obtain ⟨g1, g2, g3, g4, g5, g6, g7⟩ := e_cl_ok hr
  have hlen : k < (e_cf kd).length := by rw [← Nat.sub_add_cancel h1, g5]; exact hkr
  have htc := g4 k hkr
  rw [Nat.sub_add_cancel h1, hty] at htc
  obtain ⟨n1, n2⟩ := hnw _ htc
  have hset : (e_fs ad σ a (e_cf kd)).set k w = e_fs ad σ' a (e_cf kd) := e_fs_set hlen (by rw [hty]; exact hv) (fun j hj => ho' j _ hj)
  have hws : (e_w G ad σ).set (a - 1) (ad a, .inr (kd - 1, (e_fs ad σ a (e_cf kd)).set k w)) = e_w G ad σ' := by
    refine e_w_set a1 a2 hN ?_ he
    rw [hset, e_en_obj (σ := σ') (c := kd) (by rw [hsh]; exact a3) hc]
  have K9 : ∀ (H1 : Heap) (locs1 : List Loc), va_P G.1 vwCl ((e_w G ad σ).set (a - 1) (ad a, .inr (kd - 1, (e_fs ad σ a (e_cf kd)).set k w))) H1 → va_D A ((e_w G ad σ).set (a - 1) (ad a, .inr (kd - 1, (e_fs ad σ a (e_cf kd)).set k w))) → va_S A s.heap H1 locs1 → W p l e R s m args below meth c H1 locs1 cells slots Q (F0 m (pc + 3) LS ST) := by
    intro H1 locs1 q1 q2 q3
    rw [hws] at q1 q2
    exact kk H1 locs1 ⟨hK, q1, q2, q3, hw', hA⟩
  rcases hfin r hr with hf | ⟨hf1, hf2⟩
  · exact va_put (D := G.1) (ci := kd - 1) (C := r.1) (T := r.2.1) (N := r.2.2) hx hb hts g1 (e_fty (kd - 1)) g2 g3 hown hK hP hD hS (a - 1) ((e_w_at a1 a2).trans (by rw [e_en_obj a3 hc])) hr k hkr (hts _ hlink) (fun x hx => by rw [hcl] at hx; exact hx) hf (g2 k hkr) n1 n2 (by rw [e_fs_len]; exact hlen) hd K9
  · by_cases hf : (r.2.1 k).2.2.2 = false
    · exact va_put (D := G.1) (ci := kd - 1) (C := r.1) (T := r.2.1) (N := r.2.2) hx hb hts g1 (e_fty (kd - 1)) g2 g3 hown hK hP hD hS (a - 1) ((e_w_at a1 a2).trans (by rw [e_en_obj a3 hc])) hr k hkr (hts _ hlink) (fun x hx => by rw [hcl] at hx; exact hx) hf (g2 k hkr) n1 n2 (by rw [e_fs_len]; exact hlen) hd K9
    · exact va_putF (D := G.1) (ci := kd - 1) (C := r.1) (T := r.2.1) (N := r.2.2) hx hb hts g1 (e_fty (kd - 1)) g2 g3 hown hK hP hD hS (a - 1) ((e_w_at a1 a2).trans (by rw [e_en_obj a3 hc])) hr k hkr (hts _ hlink) (fun x hx => by rw [hcl] at hx; exact hx) (by simpa using hf) (hnm hf1) (hcl.trans hf2) (g2 k hkr) n1 n2 (by rw [e_fs_len]; exact hlen) hd K9
-- arrays
theorem e_s_alen (F : e_Fix p s m args meth c mi) (X : e_At G ad σ A s H locs) {a : Nat} (hd : decode (e_cb mi) pc = .ok (.arraylength, 1)) (hk : 20 ≤ e_k σ a) (hk2 : e_k σ a ≤ 23)
    (kk : W p l e R s m args below meth c H locs cells slots Q (F0 m (pc + 1) LS (.int (Int32.ofNat (e_l σ a)) :: ST))) : W p l e R s m args below meth c H locs cells slots Q (F0 m pc LS (.ref (ad a) :: ST)) := by
  obtain ⟨hx, hb, -⟩ := F
  obtain ⟨hK, hP, hD, hS, hw, hA⟩ := X
  obtain ⟨a1, a2, a3⟩ := e_k_inv (c := e_k σ a) rfl (by omega)
  have hq := e_w_at (G := G) (ad := ad) a1 a2
  rcases (show (σ.2.1 a).1 = 20 ∨ (σ.2.1 a).1 = 21 ∨ (σ.2.1 a).1 = 22 ∨ (σ.2.1 a).1 = 23 by omega) with q | q | q | q
  · rw [e_en_20 q] at hq; exact va_alen hx hb hK hP (a - 1) 0 hq (ty := .int) rfl rfl hd kk
  · rw [e_en_21 q] at hq; exact va_alen hx hb hK hP (a - 1) 1 hq (ty := .boolean) rfl rfl hd kk
  · rw [e_en_22 q] at hq; exact va_alen hx hb hK hP (a - 1) 2 hq (ty := .long) rfl rfl hd kk
  · rw [e_en_23 q] at hq; exact va_alen hx hb hK hP (a - 1) 3 hq (ty := .object RX6) rfl rfl hd kk
theorem e_s_ia (F : e_Fix p s m args meth c mi) (X : e_At G ad σ A s H locs) {a : Nat} {i : Int32} (hd : decode (e_cb mi) pc = .ok (.iaload, 1)) (hk : e_k σ a = 20) (hi : ¬ (i < 0 ∨ e_l σ a ≤ i.toNatClampNeg))
    (kk : W p l e R s m args below meth c H locs cells slots Q (F0 m (pc + 1) LS (.int (e_I σ a i.toNatClampNeg) :: ST))) : W p l e R s m args below meth c H locs cells slots Q (F0 m pc LS (.int i :: .ref (ad a) :: ST)) := by
  obtain ⟨hx, hb, -⟩ := F
  obtain ⟨hK, hP, hD, hS, hw, hA⟩ := X
  obtain ⟨a1, a2, a3⟩ := e_k_inv hk (by omega)
  have hq := e_w_at (G := G) (ad := ad) a1 a2
  rw [e_en_20 a3] at hq
  exact va_iald hx hb hK hP (a - 1) 0 hq rfl hi hd kk
theorem e_s_za (F : e_Fix p s m args meth c mi) (X : e_At G ad σ A s H locs) {a : Nat} {i : Int32} (hd : decode (e_cb mi) pc = .ok (.baload, 1)) (hk : e_k σ a = 21) (hi : ¬ (i < 0 ∨ e_l σ a ≤ i.toNatClampNeg))
    (kk : W p l e R s m args below meth c H locs cells slots Q (F0 m (pc + 1) LS (.int (e_I σ a i.toNatClampNeg) :: ST))) : W p l e R s m args below meth c H locs cells slots Q (F0 m pc LS (.int i :: .ref (ad a) :: ST)) := by
  obtain ⟨hx, hb, -⟩ := F
  obtain ⟨hK, hP, hD, hS, hw, hA⟩ := X
  obtain ⟨a1, a2, a3⟩ := e_k_inv hk (by omega)
  have hq := e_w_at (G := G) (ad := ad) a1 a2
  rw [e_en_21 a3] at hq
  exact va_zald hx hb hK hP (a - 1) 1 hq rfl hi hd kk
theorem e_s_ja (F : e_Fix p s m args meth c mi) (X : e_At G ad σ A s H locs) {a : Nat} {i : Int32} (hd : decode (e_cb mi) pc = .ok (.laload, 1)) (hk : e_k σ a = 22) (hi : ¬ (i < 0 ∨ e_l σ a ≤ i.toNatClampNeg))
    (kk : W p l e R s m args below meth c H locs cells slots Q (F0 m (pc + 1) LS (.long (e_J σ a i.toNatClampNeg) :: ST))) : W p l e R s m args below meth c H locs cells slots Q (F0 m pc LS (.int i :: .ref (ad a) :: ST)) := by
  obtain ⟨hx, hb, -⟩ := F
  obtain ⟨hK, hP, hD, hS, hw, hA⟩ := X
  obtain ⟨a1, a2, a3⟩ := e_k_inv hk (by omega)
  have hq := e_w_at (G := G) (ad := ad) a1 a2
  rw [e_en_22 a3] at hq
  exact va_lald hx hb hK hP (a - 1) 2 hq rfl hi hd kk
theorem e_s_qa (F : e_Fix p s m args meth c mi) (X : e_At G ad σ A s H locs) {a : Nat} {i : Int32} (hd : decode (e_cb mi) pc = .ok (.aaload, 1)) (hk : e_k σ a = 23) (hi : ¬ (i < 0 ∨ e_l σ a ≤ i.toNatClampNeg))
    (kk : ∀ w, e_VR σ.1 ad (.ref (e_F σ a i.toNatClampNeg)) w → W p l e R s m args below meth c H locs cells slots Q (F0 m (pc + 1) LS (w :: ST))) : W p l e R s m args below meth c H locs cells slots Q (F0 m pc LS (.int i :: .ref (ad a) :: ST)) := by
  obtain ⟨hx, hb, -⟩ := F
  obtain ⟨hK, hP, hD, hS, hw, hA⟩ := X
  obtain ⟨a1, a2, a3⟩ := e_k_inv hk (by omega)
  have hq := e_w_at (G := G) (ad := ad) a1 a2
  rw [e_en_23 a3] at hq
  exact va_aldq hx hb hK hP (a - 1) 3 hq rfl hi hd (kk _ (e_qo_VR hw a1 a2))
theorem e_s_is (F : e_Fix p s m args meth c mi) (X : e_At G ad σ A s H locs) {a : Nat} {i v : Int32} (hd : decode (e_cb mi) pc = .ok (.iastore, 1)) (hk : e_k σ a = 20) (hi : ¬ (i < 0 ∨ e_l σ a ≤ i.toNatClampNeg))
    (kk : ∀ (H1 : Heap) (locs1 : List Loc), e_At G ad (e_uI σ a i.toNatClampNeg v) A s H1 locs1 → W p l e R s m args below meth c H1 locs1 cells slots Q (F0 m (pc + 1) LS ST)) : W p l e R s m args below meth c H locs cells slots Q (F0 m pc LS (.int v :: .int i :: .ref (ad a) :: ST)) := by
  obtain ⟨hx, hb, -⟩ := F
  obtain ⟨hK, hP, hD, hS, hw, hA⟩ := X
  obtain ⟨a1, a2, a3⟩ := e_k_inv hk (by omega)
  have hq := e_w_at (G := G) (ad := ad) a1 a2
  rw [e_en_20 a3] at hq
  refine va_iast hx hb hK hP hD hS (a - 1) 0 hq rfl hi hd (fun H1 locs1 q1 q2 q3 => ?_)
  rw [e_w_s20 (σ' := e_uI σ a i.toNatClampNeg v) a1 a2 a3 rfl rfl (show upd (e_I σ a) i.toNatClampNeg v = e_u σ.2.2.1 a i.toNatClampNeg v a by rw [e_u_row]; rfl) (fun b hb => e_en_uI hb)] at q1 q2
  exact kk H1 locs1 ⟨hK, q1, q2, q3, hw, hA⟩
theorem e_s_zs (F : e_Fix p s m args meth c mi) (X : e_At G ad σ A s H locs) {a : Nat} {i v : Int32} (hd : decode (e_cb mi) pc = .ok (.bastore, 1)) (hk : e_k σ a = 21) (hi : ¬ (i < 0 ∨ e_l σ a ≤ i.toNatClampNeg))
    (kk : ∀ (H1 : Heap) (locs1 : List Loc), e_At G ad (e_uI σ a i.toNatClampNeg (v &&& 1)) A s H1 locs1 → W p l e R s m args below meth c H1 locs1 cells slots Q (F0 m (pc + 1) LS ST)) : W p l e R s m args below meth c H locs cells slots Q (F0 m pc LS (.int v :: .int i :: .ref (ad a) :: ST)) := by
  obtain ⟨hx, hb, -⟩ := F
  obtain ⟨hK, hP, hD, hS, hw, hA⟩ := X
  obtain ⟨a1, a2, a3⟩ := e_k_inv hk (by omega)
  have hq := e_w_at (G := G) (ad := ad) a1 a2
  rw [e_en_21 a3] at hq
  refine va_zast hx hb hK hP hD hS (a - 1) 1 hq rfl hi hd (fun H1 locs1 q1 q2 q3 => ?_)
  rw [e_w_s21 (σ' := e_uI σ a i.toNatClampNeg (v &&& 1)) a1 a2 a3 rfl rfl (show upd (e_I σ a) i.toNatClampNeg (vp_nar .boolean v) = e_u σ.2.2.1 a i.toNatClampNeg (v &&& 1) a by rw [e_u_row]; rfl) (fun b hb => e_en_uI hb)] at q1 q2
  exact kk H1 locs1 ⟨hK, q1, q2, q3, hw, hA⟩
theorem e_s_js (F : e_Fix p s m args meth c mi) (X : e_At G ad σ A s H locs) {a : Nat} {i : Int32} {v : Int64} (hd : decode (e_cb mi) pc = .ok (.lastore, 1)) (hk : e_k σ a = 22) (hi : ¬ (i < 0 ∨ e_l σ a ≤ i.toNatClampNeg))
    (kk : ∀ (H1 : Heap) (locs1 : List Loc), e_At G ad (e_uJ σ a i.toNatClampNeg v) A s H1 locs1 → W p l e R s m args below meth c H1 locs1 cells slots Q (F0 m (pc + 1) LS ST)) : W p l e R s m args below meth c H locs cells slots Q (F0 m pc LS (.long v :: .int i :: .ref (ad a) :: ST)) := by
  obtain ⟨hx, hb, -⟩ := F
  obtain ⟨hK, hP, hD, hS, hw, hA⟩ := X
  obtain ⟨a1, a2, a3⟩ := e_k_inv hk (by omega)
  have hq := e_w_at (G := G) (ad := ad) a1 a2
  rw [e_en_22 a3] at hq
  refine va_last hx hb hK hP hD hS (a - 1) 2 hq rfl hi hd (fun H1 locs1 q1 q2 q3 => ?_)
  rw [e_w_s22 (σ' := e_uJ σ a i.toNatClampNeg v) a1 a2 a3 rfl rfl (show vp_updL (e_J σ a) i.toNatClampNeg v = e_u σ.2.2.2.1 a i.toNatClampNeg v a by rw [e_u_row]; rfl) (fun b hb => e_en_uJ hb)] at q1 q2
  exact kk H1 locs1 ⟨hK, q1, q2, q3, hw, hA⟩
theorem e_s_qs (F : e_Fix p s m args meth c mi) (X : e_At G ad σ A s H locs) {a v : Nat} {i : Int32} (hd : decode (e_cb mi) pc = .ok (.aastore, 1)) (hk : e_k σ a = 23) (hv : e_k σ v = 6) (hi : ¬ (i < 0 ∨ e_l σ a ≤ i.toNatClampNeg))
    (kk : ∀ (H1 : Heap) (locs1 : List Loc), e_At G ad (e_uF σ a i.toNatClampNeg v) A s H1 locs1 → W p l e R s m args below meth c H1 locs1 cells slots Q (F0 m (pc + 1) LS ST)) : W p l e R s m args below meth c H locs cells slots Q (F0 m pc LS (.ref (ad v) :: .int i :: .ref (ad a) :: ST)) := by
  obtain ⟨hx, hb, -⟩ := F
  obtain ⟨hK, hP, hD, hS, hw, hA⟩ := X
  obtain ⟨a1, a2, a3⟩ := e_k_inv hk (by omega)
  obtain ⟨v1, v2, v3⟩ := e_k_inv hv (by omega)
  have hq := e_w_at (G := G) (ad := ad) a1 a2
  rw [e_en_23 a3] at hq
  have hqv := e_w_at (G := G) (ad := ad) v1 v2
  rw [e_en_obj v3 (by omega)] at hqv
  refine va_astq hx hb hK hP hD hS (a - 1) 3 (v - 1) 5 hq (r := (RX6, TX6, 9)) rfl hqv rfl hi hd (fun H1 locs1 q1 q2 q3 => ?_)
  have hv0 : v ≠ 0 := by omega
  rw [e_w_s23 (σ' := e_uF σ a i.toNatClampNeg v) a1 a2 a3 rfl rfl (show va_up (fun k => e_qo ad (e_F σ a k)) i.toNatClampNeg (some (ad v)) = fun k => e_qo ad (e_u σ.2.2.2.2.1 a i.toNatClampNeg v a k) by
    funext k
    rw [e_u_row]
    unfold va_up
    dsimp only
    by_cases hj : k = i.toNatClampNeg
    · rw [if_pos hj, if_pos hj]; unfold e_qo; rw [if_neg hv0]
    · rw [if_neg hj, if_neg hj]; rfl) (fun b hb => e_en_uF hb)] at q1 q2
  exact kk H1 locs1 ⟨hK, q1, q2, q3, e_WF_uF hw (Or.inr (Or.inl ⟨v1, v2⟩)), hA⟩
/-- the world behind a new cell -/
theorem e_At_new {kd len n q : Nat} {x : va_E} {H1 : Heap} (X : e_At G ad σ A s H locs) (hN : σ.1 ≤ 900000) (hx : x = e_en G (fun a => if a = σ.1 + 1 then q else ad a) (e_new σ kd len n) (σ.1 + 1)) (q1 : va_P G.1 vwCl (e_w G ad σ ++ [(q, x)]) H1) (q2 : va_D A (e_w G ad σ ++ [(q, x)])) (q3 : va_S A s.heap H1 locs) :
    e_At G (fun a => if a = σ.1 + 1 then q else ad a) (e_new σ kd len n) A s H1 locs := by
  obtain ⟨hK, hP, hD, hS, hw, hA⟩ := X
  rw [e_w_new (ad' := fun a => if a = σ.1 + 1 then q else ad a) hw hN (fun a h => if_neg h) (if_pos rfl) hx] at q1 q2
  exact ⟨hK, q1, q2, q3, e_WF_new hw, hA⟩
theorem e_new_sh {kd len n : Nat} : ((e_new σ kd len n).2.1 (σ.1 + 1)) = (kd, len) := by
  show (if σ.1 + 1 = σ.1 + 1 then (kd, len) else σ.2.1 (σ.1 + 1)) = _
  rw [if_pos rfl]
theorem e_s_na (F : e_Fix p s m args meth c mi) (X : e_At G ad σ A s H locs) {kd : Nat} {t : ArrayType} {n : Int32} (hd : decode (e_cb mi) pc = .ok (.newarray t, 2)) (ht : (t = .int ∧ kd = 20) ∨ (t = .boolean ∧ kd = 21) ∨ (t = .long ∧ kd = 22)) (hn : ¬ n < 0) (hn2 : n.toNatClampNeg ≤ 100000) (hN : σ.1 ≤ 900000)
    (hcells : cells + 1 ≤ R.cells) (hslots : slots + n.toNatClampNeg ≤ R.slots)
    (kk : ∀ (q : Nat) (H1 : Heap), e_At G (fun a => if a = σ.1 + 1 then q else ad a) (e_new σ kd n.toNatClampNeg n.toNatClampNeg) A s H1 locs → W p l e R s m args below meth c H1 locs (cells + 1) (slots + n.toNatClampNeg) Q (F0 m (pc + 2) LS (.ref q :: ST))) : W p l e R s m args below meth c H locs cells slots Q (F0 m pc LS (.int n :: ST)) := by
  obtain ⟨hx, hb, hml, hown, hts, -⟩ := F
  obtain ⟨hK, hP, hD, hS, hw, hA⟩ := id X
  rcases ht with ⟨rfl, rfl⟩ | ⟨rfl, rfl⟩ | ⟨rfl, rfl⟩
  · refine va_newa hx hb (atype := .int) (hts (.arrayClass .int) e_m_aI) (ty := .int) rfl hK hP hD hS hA (a0 := (n.toNatClampNeg, .inl (fun _ => 0))) (fun cA => rfl) hn rfl (show n.toNatClampNeg * 4 ≤ 536870912 by omega) hcells hslots hd (fun q cA H1 k1 q1 q2 q3 => ?_)
    have hcA : cA = G.2.1 := by
      have e1 : s.vm.findClass "[I" = some cA := (k1.2 4 (cA, .int) rfl).2
      have e2 : s.vm.findClass "[I" = some G.2.1 := (hK.2 0 (G.2.1, .int) rfl).2
      exact Option.some.inj (e1.symm.trans e2)
    refine kk q H1 (e_At_new X hN ?_ q1 q2 q3)
    rw [e_en_20 (by rw [e_new_sh]), hcA]
    unfold e_l
    rw [e_new_sh]
    congr 1; congr 1; congr 1; congr 1
    funext j
    show (0 : Int32) = e_z σ.2.2.1 (σ.1 + 1) 0 (σ.1 + 1) j
    unfold e_z; rw [if_pos rfl]
  · refine va_newa hx hb (atype := .boolean) (hts (.arrayClass .boolean) e_m_aZ) (ty := .boolean) rfl hK hP hD hS hA (a0 := (n.toNatClampNeg, .inl (fun _ => 0))) (fun cA => rfl) hn rfl (show n.toNatClampNeg * 1 ≤ 536870912 by omega) hcells hslots hd (fun q cA H1 k1 q1 q2 q3 => ?_)
    have hcA : cA = G.2.2.1 := by
      have e1 : s.vm.findClass "[Z" = some cA := (k1.2 4 (cA, .boolean) rfl).2
      have e2 : s.vm.findClass "[Z" = some G.2.2.1 := (hK.2 1 (G.2.2.1, .boolean) rfl).2
      exact Option.some.inj (e1.symm.trans e2)
    refine kk q H1 (e_At_new X hN ?_ q1 q2 q3)
    rw [e_en_21 (by rw [e_new_sh]), hcA]
    unfold e_l
    rw [e_new_sh]
    congr 1; congr 1; congr 1; congr 1
    funext j
    show (0 : Int32) = e_z σ.2.2.1 (σ.1 + 1) 0 (σ.1 + 1) j
    unfold e_z; rw [if_pos rfl]
  · refine va_newa hx hb (atype := .long) (hts (.arrayClass .long) e_m_aJ) (ty := .long) rfl hK hP hD hS hA (a0 := (n.toNatClampNeg, .inr (.inl (fun _ => 0)))) (fun cA => rfl) hn rfl (show n.toNatClampNeg * 8 ≤ 536870912 by omega) hcells hslots hd (fun q cA H1 k1 q1 q2 q3 => ?_)
    have hcA : cA = G.2.2.2.1 := by
      have e1 : s.vm.findClass "[J" = some cA := (k1.2 4 (cA, .long) rfl).2
      have e2 : s.vm.findClass "[J" = some G.2.2.2.1 := (hK.2 2 (G.2.2.2.1, .long) rfl).2
      exact Option.some.inj (e1.symm.trans e2)
    refine kk q H1 (e_At_new X hN ?_ q1 q2 q3)
    rw [e_en_22 (by rw [e_new_sh]), hcA]
    unfold e_l
    rw [e_new_sh]
    congr 1; congr 1; congr 1; congr 1; congr 1
    funext j
    show (0 : Int64) = e_z σ.2.2.2.1 (σ.1 + 1) 0 (σ.1 + 1) j
    unfold e_z; rw [if_pos rfl]
theorem e_s_anew (F : e_Fix p s m args meth c mi) (X : e_At G ad σ A s H locs) (hAO : va_AO RX6 s) {idx : Nat} {n : Int32} (hd : decode (e_cb mi) pc = .ok (.anewarray idx, 3)) (hlink : Cond.classLink (e_on (e_own mi)) idx RX6 ∈ e_U) (hn : ¬ n < 0) (hn2 : n.toNatClampNeg ≤ 100000) (hN : σ.1 ≤ 900000)
    (hcells : cells + 1 ≤ R.cells) (hslots : slots + n.toNatClampNeg ≤ R.slots)
    (kk : ∀ (q : Nat) (H1 : Heap), e_At G (fun a => if a = σ.1 + 1 then q else ad a) (e_new σ 23 n.toNatClampNeg n.toNatClampNeg) A s H1 locs → W p l e R s m args below meth c H1 locs (cells + 1) (slots + n.toNatClampNeg) Q (F0 m (pc + 3) LS (.ref q :: ST))) : W p l e R s m args below meth c H locs cells slots Q (F0 m pc LS (.int n :: ST)) := by
  obtain ⟨hx, hb, hml, hown, hts, -⟩ := F
  obtain ⟨hK, hP, hD, hS, hw, hA⟩ := id X
  refine va_newq hx hb hown (hts _ hlink) hAO hK hP hD hS hA hn rfl (by omega) hcells hslots hd (fun q cA H1 k1 q1 q2 q3 => ?_)
  have hcA : cA = G.2.2.2.2 := by
    obtain ⟨kA, comp, -, -, -, e1⟩ := (k1.2 4 (cA, .object RX6) rfl).2
    obtain ⟨kB, comb, -, -, -, e2⟩ := (hK.2 3 (G.2.2.2.2, .object RX6) rfl).2
    exact Option.some.inj (e1.symm.trans e2)
  refine kk q H1 (e_At_new X hN ?_ q1 q2 q3)
  rw [e_en_23 (by rw [e_new_sh]), hcA]
  unfold e_l
  rw [e_new_sh]
  congr 1; congr 1; congr 1; congr 1; congr 1; congr 1; congr 1
  funext j
  show none = e_qo _ (e_z σ.2.2.2.2.1 (σ.1 + 1) 0 (σ.1 + 1) j)
  unfold e_z; rw [if_pos rfl]; rfl
theorem e_s_new (F : e_Fix p s m args meth c mi) (X : e_At G ad σ A s H locs) {idx kd n : Nat} {r : vw_C} (hd : decode (e_cb mi) pc = .ok (.new idx, 3)) (h1 : 1 ≤ kd) (hr : vwCl[kd - 1]? = some r) (hn : r.2.2 = n) (hlink : Cond.classLink (e_on (e_own mi)) idx r.1 ∈ e_U) (hN : σ.1 ≤ 900000)
    (hcells : cells + 1 ≤ R.cells) (hslots : slots + n ≤ R.slots)
    (kk : ∀ (q : Nat) (H1 : Heap), e_At G (fun a => if a = σ.1 + 1 then q else ad a) (e_new σ kd 0 n) A s H1 locs → W p l e R s m args below meth c H1 locs (cells + 1) (slots + n) Q (F0 m (pc + 3) LS (.ref q :: ST))) : W p l e R s m args below meth c H locs cells slots Q (F0 m pc LS ST) := by
  subst hn
  obtain ⟨hx, hb, hml, hown, hts, -⟩ := F
  obtain ⟨hK, hP, hD, hS, hw, hA⟩ := id X
  obtain ⟨g1, g2, g3, g4, g5, g6, g7⟩ := e_cl_ok hr
  rw [Nat.sub_add_cancel h1] at g4 g5
  have hkd : kd < 20 := by
    have := (List.getElem?_eq_some_iff.mp hr).1
    have h12 : vwCl.length = 12 := rfl
    omega
  refine va_new (C := r.1) (T := r.2.1) (N := r.2.2) (ci := kd - 1) (fs := e_fs (fun a => if a = σ.1 + 1 then 0 else ad a) (e_new σ kd 0 r.2.2) (σ.1 + 1) (e_cf kd)) hx hb hts g1 (e_fty (kd - 1)) g2 hown (hts _ hlink) (hts _ g6) (hts _ g7) hK hP hD hS hA hr (fun j hj => ?_) hcells hslots hd (fun q H1 q1 q2 q3 => ?_)
  · have h3 := g4 j hj
    unfold vp_V
    rw [List.getD_eq_getElem?_getD, e_fs_at (by rw [g5]; exact hj)]
    show defaultValue _ = e_vl _ _ _ _ _
    have eI : e_I (e_new σ kd 0 r.2.2) (σ.1 + 1) j = 0 := by show e_z σ.2.2.1 (σ.1 + 1) 0 (σ.1 + 1) j = 0; unfold e_z; rw [if_pos rfl]
    have eJ : e_J (e_new σ kd 0 r.2.2) (σ.1 + 1) j = 0 := by show e_z σ.2.2.2.1 (σ.1 + 1) 0 (σ.1 + 1) j = 0; unfold e_z; rw [if_pos rfl]
    have eF : e_F (e_new σ kd 0 r.2.2) (σ.1 + 1) j = 0 := by show e_z σ.2.2.2.2.1 (σ.1 + 1) 0 (σ.1 + 1) j = 0; unfold e_z; rw [if_pos rfl]
    unfold e_vl
    rw [eI, eJ, eF]
    revert h3
    generalize (e_cf kd).getD j 9 = ty
    generalize e_fty (kd - 1) j = t
    intro h3
    unfold e_tyc at h3
    split at h3 <;> first | rfl | cases h3
  · refine kk q H1 (e_At_new X hN ?_ q1 q2 q3)
    rw [e_en_obj (c := kd) (by rw [e_new_sh]) hkd]
    congr 2
    unfold e_fs
    apply List.map_congr_left
    intro j hj
    have eF : e_F (e_new σ kd 0 r.2.2) (σ.1 + 1) j = 0 := by show e_z σ.2.2.2.2.1 (σ.1 + 1) 0 (σ.1 + 1) j = 0; unfold e_z; rw [if_pos rfl]
    unfold e_vl
    rw [eF]
    rfl
end Steps3
end EH
