/-! which word the reference knows -/
section S99zp
theorem c189h {d k : Nat} {I : Nat → Nat → Int32} {z : e_Z} (hk : k < 17) : e_E (d + 2) 189 [.int (e_n (k : Nat))] (mk I z) = some (.inl (some (.long (wcd (rwd.getD k [])))), mk I z) := by
  match k, hk with
  | 0, _ => exact c189_0
  | 1, _ => exact c189_1
  | 2, _ => exact c189_2
  | 3, _ => exact c189_3
  | 4, _ => exact c189_4
  | 5, _ => exact c189_5
  | 6, _ => exact c189_6
  | 7, _ => exact c189_7
  | 8, _ => exact c189_8
  | 9, _ => exact c189_9
  | 10, _ => exact c189_10
  | 11, _ => exact c189_11
  | 12, _ => exact c189_12
  | 13, _ => exact c189_13
  | 14, _ => exact c189_14
  | 15, _ => exact c189_15
  | 16, _ => exact c189_16
  | _ + 17, h => omega
def fw (c : Int64) : Nat → Nat → Int32
  | 0, _ => e_n (-1)
  | f + 1, k => if lg_cmp (wcd (rwd.getD k [])) c = 0 then e_n (k : Nat) else fw c f (k + 1)
theorem c190h {d kd len : Nat} {J : Nat → Nat → Int32} {z : e_Z} (hkd : kd < 1000) (hlen : len < 1000) (h25 : J 489 25 = e_n (kd : Nat)) (h27 : J 489 27 = e_n (len : Nat)) : e_E (d + 3) 190 [.ref 489] (mk J z) = some (.inl (some (.int (if kd = 1 then (if 6 < len then e_n (-1) else fw (z.1 489 30) 17 0) else e_n (-1)))), mk J z) := by
  have loop : ∀ f k, k + f = 17 → e_L (d + 2) 190 21 [.ref 489, .int (e_n (k : Nat))] [] (mk J z) = some (.inl (some (.int (fw (z.1 489 30) f k))), mk J z) := by
    intro f
    induction f with
    | zero =>
      intro k hk
      have : k = 17 := by omega
      subst this
      rw [C190_21, if_neg (by decide)]; rfl
    | succ f ih =>
      intro k hk
      rw [C190_21, if_pos (by rw [show (e_n 17) = e_n ((17 : Nat) : Nat) from rfl, e_n_ltN (by omega) (by omega)]; omega), c189h (by omega), e_rJ_l, C190_31, e_n_succ]
      unfold fw
      by_cases hc : lg_cmp (wcd (rwd.getD k [])) (z.1 489 30) = 0
      · rw [if_pos hc, if_pos hc]
      · rw [if_neg hc, if_neg hc]
        exact ih (k + 1) (by omega)
  refine e_E_ret (d := d + 2) ?_
  show e_L (d + 2) 190 0 [.ref 489, .null] [] (mk J z) = _
  have h1 : (e_n (kd : Nat) = e_n 1) = (kd = 1) := by rw [show (e_n 1) = e_n ((1 : Nat) : Nat) from rfl, e_n_inj (by omega) (by omega) (by omega) (by omega)]; apply propext; omega
  have h6 : (e_n 6 < e_n (len : Nat)) = (6 < len) := by rw [show (e_n 6) = e_n ((6 : Nat) : Nat) from rfl, e_n_ltN (by omega) (by omega)]
  rw [C190_0, h25, h27]
  by_cases hk : kd = 1
  · rw [if_pos (h1.mpr hk), if_pos hk]
    by_cases hl : 6 < len
    · rw [if_pos (h6.mpr hl), if_pos hl]
    · rw [if_neg (fun q => hl (h6.mp q)), if_neg hl]
      exact loop 17 0 (by decide)
  · rw [if_neg (fun q => hk (h1.mp q)), if_neg hk]
end S99zp
