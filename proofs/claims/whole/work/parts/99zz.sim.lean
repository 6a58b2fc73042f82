/-! the reference's machine reads what the rule's text says -/
section S99zz
theorem enc_ap : ∀ (x y : List Int32), enc (x ++ y) = enc x ++ enc y
  | [], y => rfl
  | c :: x, y => by
    show enc1 c ++ enc (x ++ y) = enc1 c ++ enc x ++ enc y
    rw [enc_ap x y, List.append_assoc]
def OPc (L : Nat) (c : Int32) : Prop := c < e_n (-8) ∧ rop c < e_n 14 ∧ ¬ zst (rop c) < e_n (L : Nat)
def PEND (L : Nat) (P : List Int32) : Prop := ∀ c, c ∈ P → OPc L c
theorem lt_mono {x : Int32} {a c : Nat} (h : a ≤ c) (hc : c < 1000) (hx : x < e_n (a : Nat)) : x < e_n (c : Nat) := by
  obtain ⟨v, v1, v2, rfl⟩ := e_n_toI x
  rw [e_n_lt v1 v2 (by omega) (by omega)] at hx ⊢
  omega
theorem OPc_mono {a c : Nat} {x : Int32} (h : a ≤ c) (hc : c < 1000) (hx : OPc c x) : OPc a x := ⟨hx.1, hx.2.1, fun q => hx.2.2 (lt_mono h hc q)⟩
theorem PEND_mono {a c : Nat} {P : List Int32} (h : a ≤ c) (hc : c < 1000) (hx : PEND c P) : PEND a P := fun x hm => OPc_mono h hc (hx x hm)
theorem PEND_nil {L : Nat} : PEND L [] := fun _ h => absurd h (List.not_mem_nil)
theorem PEND_add {L : Nat} {P : List Int32} {c : Int32} (h : PEND L P) (hc : OPc L c) : PEND L (P ++ [c]) := fun x hm => by
  rcases List.mem_append.mp hm with q | q
  · exact h x q
  · rw [List.mem_singleton.mp q]; exact hc
theorem enc_P {L : Nat} : ∀ (P : List Int32), PEND L P → enc P = P.map rop
  | [], _ => rfl
  | c :: P, h => by
    have hc := (h c (List.mem_cons_self ..)).1
    show enc1 c ++ enc P = rop c :: P.map rop
    rw [enc_P P (fun x hx => h x (List.mem_cons_of_mem _ hx))]
    unfold enc1
    rw [if_pos hc]; rfl
theorem Zdr_P {L : Nat} : ∀ (P : List Int32) (o W : List Int32), PEND L P → Zdr (e_n (L : Nat)) o (P.map rop ++ W) = Zdr (e_n (L : Nat)) (o ++ P.map rop) W
  | [], o, W, _ => by rw [List.map_nil, List.nil_append, List.append_nil]
  | c :: P, o, W, h => by
    obtain ⟨h1, h2, h3⟩ := h c (List.mem_cons_self ..)
    show Zdr (e_n (L : Nat)) o (rop c :: (P.map rop ++ W)) = _
    rw [Zdr_c, if_pos h2, if_neg h3, Zdr_P P _ W (fun x hx => h x (List.mem_cons_of_mem _ hx)), List.append_assoc]
    rfl
def LIM (L : Nat) (W : List Int32) : Prop := ∀ o, Zdr (e_n (L : Nat)) o W = (o, W)
theorem LIM_nil {L : Nat} : LIM L [] := fun _ => rfl
theorem LIM_14 {L : Nat} {W : List Int32} : LIM L (e_n 14 :: W) := fun o => by rw [Zdr_c, if_neg (by decide)]
theorem LIM_op {L : Nat} {c : Int32} {W : List Int32} (h1 : c < e_n 14) (h : zst c < e_n (L : Nat)) : LIM L (c :: W) := fun o => by rw [Zdr_c, if_pos h1, if_pos h]
theorem LIM_mono {a c : Nat} {W : List Int32} (h : a ≤ c) (hc : c < 1000) (hW : LIM a W) : LIM c W := by
  cases W with
  | nil => exact LIM_nil
  | cons x W =>
    intro o
    have h1 := hW o
    rw [Zdr_c] at h1 ⊢
    by_cases h14 : x < e_n 14
    · rw [if_pos h14] at h1 ⊢
      by_cases hz : zst x < e_n (a : Nat)
      · rw [if_pos (lt_mono h hc hz)]
      · rw [if_neg hz] at h1
        have l2 := (Zdr_len (l := e_n (a : Nat)) W (o ++ [x])).2
        rw [h1] at l2
        simp at l2
        omega
    · rw [if_neg h14]
theorem Zdr_PL {L : Nat} {P o W : List Int32} (h : PEND L P) (hW : LIM L W) : Zdr (e_n (L : Nat)) o (P.map rop ++ W) = (o ++ P.map rop, W) := by
  rw [Zdr_P P o W h, hW]
/-- no operator of this level and above stands there -/
def NOP (b : Nat → Int32) (n L q : Nat) (T : List Bool) : Prop := (L ≤ 6 → Yt6 b n q = none) ∧ (L ≤ 5 → Yt5 b n q = none) ∧ (L ≤ 4 → Yt4 b n q = none ∨ T.headD true = true) ∧ (L ≤ 2 → Yt2 b n q = none) ∧ (L ≤ 1 → Yt1 b n q = none)
def FAILz (r : ZR) (g q : Nat) : Prop := r = .inr (g, q) ∨ (g = 1 ∧ ∃ o W T, r = .inl (q, o, W, T) ∧ 1 < T.length)
def SO (b : Nat → Int32) (n L : Nat) (r0 : ZR) (o W : List Int32) (T : List Bool) (x : YR) : Prop := match x with
  | .inl q => ∃ f' a1 P T', n < q.1 + f' ∧ r0 = Zr b n f' none q.1 (o ++ enc a1) (P.map rop ++ W) T' ∧ q.2 = a1 ++ P ∧ PEND L P ∧ T'.tail = T.tail ∧ 1 ≤ T'.length ∧ (5 ≤ L → T' = T) ∧ NOP b n L q.1 T'
  | .inr e => FAILz r0 e.1 e.2
theorem SO_in {b : Nat → Int32} {n L q : Nat} {a : List Int32} {r0 : ZR} {o W : List Int32} {T : List Bool} : SO b n L r0 o W T (.inl (q, a)) = ∃ f' a1 P T', n < q + f' ∧ r0 = Zr b n f' none q (o ++ enc a1) (P.map rop ++ W) T' ∧ a = a1 ++ P ∧ PEND L P ∧ T'.tail = T.tail ∧ 1 ≤ T'.length ∧ (5 ≤ L → T' = T) ∧ NOP b n L q T' := rfl
theorem SO_er {b : Nat → Int32} {n L g q : Nat} {r0 : ZR} {o W : List Int32} {T : List Bool} : SO b n L r0 o W T (.inr (g, q)) = FAILz r0 g q := rfl
def SIM (b : Nat → Int32) (n : Nat) (M : Bool × Nat → Nat → Prop) (d K L : Nat) (X : Nat → YR) : Prop := ∀ f m p o W T, p ≤ n → n < p + f → M m p → LIM K W → 1 ≤ T.length → T.length + d = 6 → (L ≤ 4 → T.headD true = false) → SO b n L (Zr b n f (some m) p o W T) o W T (X p)
theorem len_t {T T' : List Bool} (h : T'.tail = T.tail) (h1 : 1 ≤ T'.length) (h2 : 1 ≤ T.length) : T'.length = T.length := by
  have e := congrArg List.length h
  rw [List.length_tail, List.length_tail] at e
  omega
/-- a loop of one level -/
theorem lp_sim {b : Nat → Int32} {n d KX L LX : Nat} {M : Bool × Nat → Nat → Prop} {X : Nat → YR} {tok : Nat → Option Int32} {mn : Bool} {TX : List Bool → List Bool}
    (hX : SIM b n M d KX LX X) (hG : YG n X) (hM : ∀ p, M (mn, 0) p) (hL : L ≤ LX) (hLX : LX < 1000)
    (hk : ∀ p c, tok p = some c → ¬ tkK b n p = 0) (hc : ∀ p c, tok p = some c → OPc L c ∧ zst (rop c) < e_n (KX : Nat))
    (hstep : ∀ f p c o W T, tok p = some c → Zr b n (f + 1) none p o W T = Zr b n f (some (mn, 0)) (nxP b n p) (Zdr (e_n (L : Nat)) o W).1 (rop c :: (Zdr (e_n (L : Nat)) o W).2) (TX T))
    (hT : ∀ T : List Bool, 1 ≤ T.length → (TX T).tail = T.tail ∧ 1 ≤ (TX T).length ∧ (LX ≤ 4 → (TX T).headD true = false) ∧ (5 ≤ L → TX T = T))
    (hLL : 5 ≤ L → 5 ≤ LX) (hnop : ∀ q T, NOP b n LX q T → tok q = none → NOP b n L q T) :
    ∀ g f p o a1 P W T, p ≤ n → n < p + f → n < p + g → PEND L P → LIM L W → 1 ≤ T.length → T.length + d = 6 → NOP b n LX p T → SO b n L (Zr b n f none p (o ++ enc a1) (P.map rop ++ W) T) o W T (Ylp b n X tok g p (a1 ++ P)) := by
  intro g
  induction g with
  | zero =>
    intro f p o a1 P W T hp _ hg
    omega
  | succ g ih =>
    intro f p o a1 P W T hp hf hg hP hW hT1 hTd hN
    rw [Ylp_s]
    cases htk : tok p with
    | none =>
      rw [Yo_n, SO_in]
      exact ⟨f, a1, P, T, hf, rfl, rfl, hP, rfl, hT1, fun _ => rfl, hnop p T hN htk⟩
    | some c =>
      rw [Yo_s]
      have hpn := tk_lt (hk p c htk)
      have hlt := nxP_lt (b := b) hpn
      obtain ⟨c1, c2⟩ := hc p c htk
      obtain ⟨t1, t2, t3, t4⟩ := hT T hT1
      obtain ⟨f, rfl⟩ : ∃ g, f = g + 1 := ⟨f - 1, by omega⟩
      rw [hstep f p c _ _ T htk, Zdr_PL hP hW]
      show SO b n L (Zr b n f (some (mn, 0)) (nxP b n p) (o ++ enc a1 ++ P.map rop) (rop c :: W) (TX T)) o W T _
      have hs := hX f (mn, 0) (nxP b n p) (o ++ enc a1 ++ P.map rop) (rop c :: W) (TX T) hlt.2 (by omega) (hM _) (LIM_op c1.2.1 c2) t2 (by have := len_t t1 t2 hT1; omega) t3
      cases hx : X (nxP b n p) with
      | inr e =>
        obtain ⟨g2, q⟩ := e
        rw [hx, SO_er] at hs
        rw [Yb_r, SO_er]
        exact hs
      | inl r =>
        obtain ⟨q, a2⟩ := r
        rw [hx, SO_in] at hs
        obtain ⟨f', a1x, Px, T', s1, s2, s3, s4, s5, s6, s7, s8⟩ := hs
        obtain ⟨g1, g2, g3⟩ := hG _ _ _ hlt.2 hx
        rw [Yb_l]
        have hT2 : T'.tail = T.tail := s5.trans t1
        have e1 : o ++ enc a1 ++ P.map rop ++ enc a1x = o ++ enc (a1 ++ P ++ a1x) := by
          rw [enc_ap, enc_ap, enc_P P hP]
          simp
        have e2 : Px.map rop ++ rop c :: W = (Px ++ [c]).map rop ++ W := by simp
        have e3 : a1 ++ P ++ a2 ++ [c] = (a1 ++ P ++ a1x) ++ (Px ++ [c]) := by rw [s3]; simp
        have hr := ih f' q o (a1 ++ P ++ a1x) (Px ++ [c]) W T' g2 s1 (by omega) (PEND_add (PEND_mono hL hLX s4) c1) hW s6 (by have := len_t hT2 s6 hT1; omega) s8
        rw [s2, e1, e2, e3]
        cases hy : Ylp b n X tok g q (a1 ++ P ++ a1x ++ (Px ++ [c])) with
        | inr e =>
          obtain ⟨g3, q3⟩ := e
          rw [hy, SO_er] at hr
          rw [SO_er]; exact hr
        | inl r =>
          obtain ⟨q3, a3⟩ := r
          rw [hy, SO_in] at hr
          rw [SO_in]
          obtain ⟨f3, b1, P3, T3, r1, r2, r3, r4, r5, r6, r7, r8⟩ := hr
          exact ⟨f3, b1, P3, T3, r1, r2, r3, r4, r5.trans hT2, r6, fun h5 => by rw [r7 h5, s7 (hLL h5), t4 h5], r8⟩
theorem SIM_b {b : Nat → Int32} {n d KX L LX : Nat} {M M' : Bool × Nat → Nat → Prop} {X : Nat → YR} {tok : Nat → Option Int32} {mn : Bool} {TX : List Bool → List Bool} (hn : n ≤ 700)
    (hX : SIM b n M d KX LX X) (hG : YG n X) (hM : ∀ p, M (mn, 0) p) (hL : L ≤ LX) (hLX : LX < 1000)
    (hk : ∀ p c, tok p = some c → ¬ tkK b n p = 0) (hc : ∀ p c, tok p = some c → OPc L c ∧ zst (rop c) < e_n (KX : Nat))
    (hstep : ∀ f p c o W T, tok p = some c → Zr b n (f + 1) none p o W T = Zr b n f (some (mn, 0)) (nxP b n p) (Zdr (e_n (L : Nat)) o W).1 (rop c :: (Zdr (e_n (L : Nat)) o W).2) (TX T))
    (hT : ∀ T : List Bool, 1 ≤ T.length → (TX T).tail = T.tail ∧ 1 ≤ (TX T).length ∧ (LX ≤ 4 → (TX T).headD true = false) ∧ (5 ≤ L → TX T = T))
    (hLL : 5 ≤ L → 5 ≤ LX) (hnop : ∀ q T, NOP b n LX q T → tok q = none → NOP b n L q T)
    (hMM : ∀ m p, M' m p → M m p) (h4 : LX ≤ 4 → L ≤ 4) (hK : L ≤ KX) (hKX : KX < 1000) : SIM b n M' d L L (fun p => Yb (X p) (fun q a => Ylp b n X tok 701 q a)) := by
  intro f m p o W T hp hf hm hW hT1 hTd h5
  have hs := hX f m p o W T hp hf (hMM m p hm) (LIM_mono hK hKX hW) hT1 hTd (fun q => h5 (h4 q))
  show SO b n L (Zr b n f (some m) p o W T) o W T (Yb (X p) (fun q a => Ylp b n X tok 701 q a))
  cases hx : X p with
  | inr e =>
    obtain ⟨g2, q⟩ := e
    rw [hx, SO_er] at hs
    rw [Yb_r, SO_er]
    exact hs
  | inl r =>
    obtain ⟨q, a2⟩ := r
    rw [hx, SO_in] at hs
    obtain ⟨f', a1x, Px, T', s1, s2, s3, s4, s5, s6, s7, s8⟩ := hs
    obtain ⟨g1, g2, g3⟩ := hG _ _ _ hp hx
    rw [Yb_l, s2, s3]
    have hr := lp_sim hX hG hM hL hLX hk hc hstep hT hLL hnop 701 f' q o a1x Px W T' g2 s1 (by omega) (PEND_mono hL hLX s4) hW s6 (by have := len_t s5 s6 hT1; omega) s8
    cases hy : Ylp b n X tok 701 q (a1x ++ Px) with
    | inr e =>
      obtain ⟨g3, q3⟩ := e
      rw [hy, SO_er] at hr
      rw [SO_er]; exact hr
    | inl r =>
      obtain ⟨q3, a3⟩ := r
      rw [hy, SO_in] at hr
      rw [SO_in]
      obtain ⟨f3, b1, P3, T3, r1, r2, r3, r4, r5, r6, r7, r8⟩ := hr
      exact ⟨f3, b1, P3, T3, r1, r2, r3, r4, r5.trans s5, r6, fun h5 => by rw [r7 h5, s7 (hLL h5)], r8⟩
end S99zz
