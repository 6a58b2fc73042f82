/-! the reference's word k -/
section S99zo
theorem c189_0 {d : Nat} {I : Nat → Nat → Int32} {z : e_Z} : e_E (d + 2) 189 [.int (e_n ((0 : Nat) : Nat))] (mk I z) = some (.inl (some (.long (wcd (rwd.getD 0 [])))), mk I z) := by
  have h : e_E (d + 1) 188 [.int (e_n 103), .int (e_n 111), .int (e_n 111), .int (e_n 100), .int (e_n 115), .int (e_n 0)] (mk I z) = some (.inl (some (.long (wcd (rwd.getD 0 [])))), mk I z) := by
    refine e_E_ret (d := d) ?_
    show e_L d 188 0 [.int (e_n 103), .int (e_n 111), .int (e_n 111), .int (e_n 100), .int (e_n 115), .int (e_n 0), .null, .null] [] (mk I z) = _
    rw [C188_0]
    rw [if_neg (by decide)]
    rw [if_neg (by decide)]
    rw [if_neg (by decide)]
    rw [if_pos (by decide)]
    exact congrArg (fun v => (some (Sum.inl (some (Value.long v)), mk I z) : e_X)) (by decide +kernel)
  refine e_E_ret (d := d + 1) ?_
  show e_L (d + 1) 189 0 [.int (e_n ((0 : Nat) : Nat))] [] (mk I z) = _
  rw [C189_0]
  rw [if_pos (by decide)]
  rw [h]
  exact C189_94
theorem c189_1 {d : Nat} {I : Nat → Nat → Int32} {z : e_Z} : e_E (d + 2) 189 [.int (e_n ((1 : Nat) : Nat))] (mk I z) = some (.inl (some (.long (wcd (rwd.getD 1 [])))), mk I z) := by
  have h : e_E (d + 1) 188 [.int (e_n 100), .int (e_n 101), .int (e_n 98), .int (e_n 116), .int (e_n 0), .int (e_n 0)] (mk I z) = some (.inl (some (.long (wcd (rwd.getD 1 [])))), mk I z) := by
    refine e_E_ret (d := d) ?_
    show e_L d 188 0 [.int (e_n 100), .int (e_n 101), .int (e_n 98), .int (e_n 116), .int (e_n 0), .int (e_n 0), .null, .null] [] (mk I z) = _
    rw [C188_0]
    rw [if_neg (by decide)]
    rw [if_neg (by decide)]
    rw [if_pos (by decide)]
    rw [if_pos (by decide)]
    exact congrArg (fun v => (some (Sum.inl (some (Value.long v)), mk I z) : e_X)) (by decide +kernel)
  refine e_E_ret (d := d + 1) ?_
  show e_L (d + 1) 189 0 [.int (e_n ((1 : Nat) : Nat))] [] (mk I z) = _
  rw [C189_0]
  rw [if_neg (by decide)]
  rw [if_pos (by decide)]
  rw [h]
  exact C189_108
theorem c189_2 {d : Nat} {I : Nat → Nat → Int32} {z : e_Z} : e_E (d + 2) 189 [.int (e_n ((2 : Nat) : Nat))] (mk I z) = some (.inl (some (.long (wcd (rwd.getD 2 [])))), mk I z) := by
  have h : e_E (d + 1) 188 [.int (e_n 102), .int (e_n 111), .int (e_n 101), .int (e_n 0), .int (e_n 0), .int (e_n 0)] (mk I z) = some (.inl (some (.long (wcd (rwd.getD 2 [])))), mk I z) := by
    refine e_E_ret (d := d) ?_
    show e_L d 188 0 [.int (e_n 102), .int (e_n 111), .int (e_n 101), .int (e_n 0), .int (e_n 0), .int (e_n 0), .null, .null] [] (mk I z) = _
    rw [C188_0]
    rw [if_neg (by decide)]
    rw [if_pos (by decide)]
    rw [if_pos (by decide)]
    rw [if_pos (by decide)]
    exact congrArg (fun v => (some (Sum.inl (some (Value.long v)), mk I z) : e_X)) (by decide +kernel)
  refine e_E_ret (d := d + 1) ?_
  show e_L (d + 1) 189 0 [.int (e_n ((2 : Nat) : Nat))] [] (mk I z) = _
  rw [C189_0]
  rw [if_neg (by decide)]
  rw [if_neg (by decide)]
  rw [if_pos (by decide)]
  rw [h]
  exact C189_121
theorem c189_3 {d : Nat} {I : Nat → Nat → Int32} {z : e_Z} : e_E (d + 2) 189 [.int (e_n ((3 : Nat) : Nat))] (mk I z) = some (.inl (some (.long (wcd (rwd.getD 3 [])))), mk I z) := by
  have h : e_E (d + 1) 188 [.int (e_n 102), .int (e_n 114), .int (e_n 105), .int (e_n 101), .int (e_n 110), .int (e_n 100)] (mk I z) = some (.inl (some (.long (wcd (rwd.getD 3 [])))), mk I z) := by
    refine e_E_ret (d := d) ?_
    show e_L d 188 0 [.int (e_n 102), .int (e_n 114), .int (e_n 105), .int (e_n 101), .int (e_n 110), .int (e_n 100), .null, .null] [] (mk I z) = _
    rw [C188_0]
    rw [if_neg (by decide)]
    rw [if_neg (by decide)]
    rw [if_neg (by decide)]
    rw [if_neg (by decide)]
    exact congrArg (fun v => (some (Sum.inl (some (Value.long v)), mk I z) : e_X)) (by decide +kernel)
  refine e_E_ret (d := d + 1) ?_
  show e_L (d + 1) 189 0 [.int (e_n ((3 : Nat) : Nat))] [] (mk I z) = _
  rw [C189_0]
  rw [if_neg (by decide)]
  rw [if_neg (by decide)]
  rw [if_neg (by decide)]
  rw [if_pos (by decide)]
  rw [h]
  exact C189_137
theorem c189_4 {d : Nat} {I : Nat → Nat → Int32} {z : e_Z} : e_E (d + 2) 189 [.int (e_n ((4 : Nat) : Nat))] (mk I z) = some (.inl (some (.long (wcd (rwd.getD 4 [])))), mk I z) := by
  have h : e_E (d + 1) 188 [.int (e_n 107), .int (e_n 105), .int (e_n 110), .int (e_n 0), .int (e_n 0), .int (e_n 0)] (mk I z) = some (.inl (some (.long (wcd (rwd.getD 4 [])))), mk I z) := by
    refine e_E_ret (d := d) ?_
    show e_L d 188 0 [.int (e_n 107), .int (e_n 105), .int (e_n 110), .int (e_n 0), .int (e_n 0), .int (e_n 0), .null, .null] [] (mk I z) = _
    rw [C188_0]
    rw [if_neg (by decide)]
    rw [if_pos (by decide)]
    rw [if_pos (by decide)]
    rw [if_pos (by decide)]
    exact congrArg (fun v => (some (Sum.inl (some (Value.long v)), mk I z) : e_X)) (by decide +kernel)
  refine e_E_ret (d := d + 1) ?_
  show e_L (d + 1) 189 0 [.int (e_n ((4 : Nat) : Nat))] [] (mk I z) = _
  rw [C189_0]
  rw [if_neg (by decide)]
  rw [if_neg (by decide)]
  rw [if_neg (by decide)]
  rw [if_neg (by decide)]
  rw [if_pos (by decide)]
  rw [h]
  exact C189_150
theorem c189_5 {d : Nat} {I : Nat → Nat → Int32} {z : e_Z} : e_E (d + 2) 189 [.int (e_n ((5 : Nat) : Nat))] (mk I z) = some (.inl (some (.long (wcd (rwd.getD 5 [])))), mk I z) := by
  have h : e_E (d + 1) 188 [.int (e_n 108), .int (e_n 105), .int (e_n 115), .int (e_n 116), .int (e_n 101), .int (e_n 100)] (mk I z) = some (.inl (some (.long (wcd (rwd.getD 5 [])))), mk I z) := by
    refine e_E_ret (d := d) ?_
    show e_L d 188 0 [.int (e_n 108), .int (e_n 105), .int (e_n 115), .int (e_n 116), .int (e_n 101), .int (e_n 100), .null, .null] [] (mk I z) = _
    rw [C188_0]
    rw [if_neg (by decide)]
    rw [if_neg (by decide)]
    rw [if_neg (by decide)]
    rw [if_neg (by decide)]
    exact congrArg (fun v => (some (Sum.inl (some (Value.long v)), mk I z) : e_X)) (by decide +kernel)
  refine e_E_ret (d := d + 1) ?_
  show e_L (d + 1) 189 0 [.int (e_n ((5 : Nat) : Nat))] [] (mk I z) = _
  rw [C189_0]
  rw [if_neg (by decide)]
  rw [if_neg (by decide)]
  rw [if_neg (by decide)]
  rw [if_neg (by decide)]
  rw [if_neg (by decide)]
  rw [if_pos (by decide)]
  rw [h]
  exact C189_166
theorem c189_6 {d : Nat} {I : Nat → Nat → Int32} {z : e_Z} : e_E (d + 2) 189 [.int (e_n ((6 : Nat) : Nat))] (mk I z) = some (.inl (some (.long (wcd (rwd.getD 6 [])))), mk I z) := by
  have h : e_E (d + 1) 188 [.int (e_n 100), .int (e_n 97), .int (e_n 121), .int (e_n 0), .int (e_n 0), .int (e_n 0)] (mk I z) = some (.inl (some (.long (wcd (rwd.getD 6 [])))), mk I z) := by
    refine e_E_ret (d := d) ?_
    show e_L d 188 0 [.int (e_n 100), .int (e_n 97), .int (e_n 121), .int (e_n 0), .int (e_n 0), .int (e_n 0), .null, .null] [] (mk I z) = _
    rw [C188_0]
    rw [if_neg (by decide)]
    rw [if_pos (by decide)]
    rw [if_pos (by decide)]
    rw [if_pos (by decide)]
    exact congrArg (fun v => (some (Sum.inl (some (Value.long v)), mk I z) : e_X)) (by decide +kernel)
  refine e_E_ret (d := d + 1) ?_
  show e_L (d + 1) 189 0 [.int (e_n ((6 : Nat) : Nat))] [] (mk I z) = _
  rw [C189_0]
  rw [if_neg (by decide)]
  rw [if_neg (by decide)]
  rw [if_neg (by decide)]
  rw [if_neg (by decide)]
  rw [if_neg (by decide)]
  rw [if_neg (by decide)]
  rw [if_pos (by decide)]
  rw [h]
  exact C189_179
theorem c189_7 {d : Nat} {I : Nat → Nat → Int32} {z : e_Z} : e_E (d + 2) 189 [.int (e_n ((7 : Nat) : Nat))] (mk I z) = some (.inl (some (.long (wcd (rwd.getD 7 [])))), mk I z) := by
  have h : e_E (d + 1) 188 [.int (e_n 115), .int (e_n 97), .int (e_n 108), .int (e_n 101), .int (e_n 115), .int (e_n 0)] (mk I z) = some (.inl (some (.long (wcd (rwd.getD 7 [])))), mk I z) := by
    refine e_E_ret (d := d) ?_
    show e_L d 188 0 [.int (e_n 115), .int (e_n 97), .int (e_n 108), .int (e_n 101), .int (e_n 115), .int (e_n 0), .null, .null] [] (mk I z) = _
    rw [C188_0]
    rw [if_neg (by decide)]
    rw [if_neg (by decide)]
    rw [if_neg (by decide)]
    rw [if_pos (by decide)]
    exact congrArg (fun v => (some (Sum.inl (some (Value.long v)), mk I z) : e_X)) (by decide +kernel)
  refine e_E_ret (d := d + 1) ?_
  show e_L (d + 1) 189 0 [.int (e_n ((7 : Nat) : Nat))] [] (mk I z) = _
  rw [C189_0]
  rw [if_neg (by decide)]
  rw [if_neg (by decide)]
  rw [if_neg (by decide)]
  rw [if_neg (by decide)]
  rw [if_neg (by decide)]
  rw [if_neg (by decide)]
  rw [if_neg (by decide)]
  rw [if_pos (by decide)]
  rw [h]
  exact C189_194
theorem c189_8 {d : Nat} {I : Nat → Nat → Int32} {z : e_Z} : e_E (d + 2) 189 [.int (e_n ((8 : Nat) : Nat))] (mk I z) = some (.inl (some (.long (wcd (rwd.getD 8 [])))), mk I z) := by
  have h : e_E (d + 1) 188 [.int (e_n 109), .int (e_n 97), .int (e_n 115), .int (e_n 116), .int (e_n 101), .int (e_n 114)] (mk I z) = some (.inl (some (.long (wcd (rwd.getD 8 [])))), mk I z) := by
    refine e_E_ret (d := d) ?_
    show e_L d 188 0 [.int (e_n 109), .int (e_n 97), .int (e_n 115), .int (e_n 116), .int (e_n 101), .int (e_n 114), .null, .null] [] (mk I z) = _
    rw [C188_0]
    rw [if_neg (by decide)]
    rw [if_neg (by decide)]
    rw [if_neg (by decide)]
    rw [if_neg (by decide)]
    exact congrArg (fun v => (some (Sum.inl (some (Value.long v)), mk I z) : e_X)) (by decide +kernel)
  refine e_E_ret (d := d + 1) ?_
  show e_L (d + 1) 189 0 [.int (e_n ((8 : Nat) : Nat))] [] (mk I z) = _
  rw [C189_0]
  rw [if_neg (by decide)]
  rw [if_neg (by decide)]
  rw [if_neg (by decide)]
  rw [if_neg (by decide)]
  rw [if_neg (by decide)]
  rw [if_neg (by decide)]
  rw [if_neg (by decide)]
  rw [if_neg (by decide)]
  rw [if_pos (by decide)]
  rw [h]
  exact C189_210
theorem c189_9 {d : Nat} {I : Nat → Nat → Int32} {z : e_Z} : e_E (d + 2) 189 [.int (e_n ((9 : Nat) : Nat))] (mk I z) = some (.inl (some (.long (wcd (rwd.getD 9 [])))), mk I z) := by
  have h : e_E (d + 1) 188 [.int (e_n 112), .int (e_n 108), .int (e_n 97), .int (e_n 99), .int (e_n 101), .int (e_n 0)] (mk I z) = some (.inl (some (.long (wcd (rwd.getD 9 [])))), mk I z) := by
    refine e_E_ret (d := d) ?_
    show e_L d 188 0 [.int (e_n 112), .int (e_n 108), .int (e_n 97), .int (e_n 99), .int (e_n 101), .int (e_n 0), .null, .null] [] (mk I z) = _
    rw [C188_0]
    rw [if_neg (by decide)]
    rw [if_neg (by decide)]
    rw [if_neg (by decide)]
    rw [if_pos (by decide)]
    exact congrArg (fun v => (some (Sum.inl (some (Value.long v)), mk I z) : e_X)) (by decide +kernel)
  refine e_E_ret (d := d + 1) ?_
  show e_L (d + 1) 189 0 [.int (e_n ((9 : Nat) : Nat))] [] (mk I z) = _
  rw [C189_0]
  rw [if_neg (by decide)]
  rw [if_neg (by decide)]
  rw [if_neg (by decide)]
  rw [if_neg (by decide)]
  rw [if_neg (by decide)]
  rw [if_neg (by decide)]
  rw [if_neg (by decide)]
  rw [if_neg (by decide)]
  rw [if_neg (by decide)]
  rw [if_pos (by decide)]
  rw [h]
  exact C189_225
theorem c189_10 {d : Nat} {I : Nat → Nat → Int32} {z : e_Z} : e_E (d + 2) 189 [.int (e_n ((10 : Nat) : Nat))] (mk I z) = some (.inl (some (.long (wcd (rwd.getD 10 [])))), mk I z) := by
  have h : e_E (d + 1) 188 [.int (e_n 115), .int (e_n 101), .int (e_n 97), .int (e_n 0), .int (e_n 0), .int (e_n 0)] (mk I z) = some (.inl (some (.long (wcd (rwd.getD 10 [])))), mk I z) := by
    refine e_E_ret (d := d) ?_
    show e_L d 188 0 [.int (e_n 115), .int (e_n 101), .int (e_n 97), .int (e_n 0), .int (e_n 0), .int (e_n 0), .null, .null] [] (mk I z) = _
    rw [C188_0]
    rw [if_neg (by decide)]
    rw [if_pos (by decide)]
    rw [if_pos (by decide)]
    rw [if_pos (by decide)]
    exact congrArg (fun v => (some (Sum.inl (some (Value.long v)), mk I z) : e_X)) (by decide +kernel)
  refine e_E_ret (d := d + 1) ?_
  show e_L (d + 1) 189 0 [.int (e_n ((10 : Nat) : Nat))] [] (mk I z) = _
  rw [C189_0]
  rw [if_neg (by decide)]
  rw [if_neg (by decide)]
  rw [if_neg (by decide)]
  rw [if_neg (by decide)]
  rw [if_neg (by decide)]
  rw [if_neg (by decide)]
  rw [if_neg (by decide)]
  rw [if_neg (by decide)]
  rw [if_neg (by decide)]
  rw [if_neg (by decide)]
  rw [if_pos (by decide)]
  rw [h]
  exact C189_238
theorem c189_11 {d : Nat} {I : Nat → Nat → Int32} {z : e_Z} : e_E (d + 2) 189 [.int (e_n ((11 : Nat) : Nat))] (mk I z) = some (.inl (some (.long (wcd (rwd.getD 11 [])))), mk I z) := by
  have h : e_E (d + 1) 188 [.int (e_n 119), .int (e_n 97), .int (e_n 121), .int (e_n 0), .int (e_n 0), .int (e_n 0)] (mk I z) = some (.inl (some (.long (wcd (rwd.getD 11 [])))), mk I z) := by
    refine e_E_ret (d := d) ?_
    show e_L d 188 0 [.int (e_n 119), .int (e_n 97), .int (e_n 121), .int (e_n 0), .int (e_n 0), .int (e_n 0), .null, .null] [] (mk I z) = _
    rw [C188_0]
    rw [if_neg (by decide)]
    rw [if_pos (by decide)]
    rw [if_pos (by decide)]
    rw [if_pos (by decide)]
    exact congrArg (fun v => (some (Sum.inl (some (Value.long v)), mk I z) : e_X)) (by decide +kernel)
  refine e_E_ret (d := d + 1) ?_
  show e_L (d + 1) 189 0 [.int (e_n ((11 : Nat) : Nat))] [] (mk I z) = _
  rw [C189_0]
  rw [if_neg (by decide)]
  rw [if_neg (by decide)]
  rw [if_neg (by decide)]
  rw [if_neg (by decide)]
  rw [if_neg (by decide)]
  rw [if_neg (by decide)]
  rw [if_neg (by decide)]
  rw [if_neg (by decide)]
  rw [if_neg (by decide)]
  rw [if_neg (by decide)]
  rw [if_neg (by decide)]
  rw [if_pos (by decide)]
  rw [h]
  exact C189_251
theorem c189_12 {d : Nat} {I : Nat → Nat → Int32} {z : e_Z} : e_E (d + 2) 189 [.int (e_n ((12 : Nat) : Nat))] (mk I z) = some (.inl (some (.long (wcd (rwd.getD 12 [])))), mk I z) := by
  have h : e_E (d + 1) 188 [.int (e_n 112), .int (e_n 101), .int (e_n 114), .int (e_n 115), .int (e_n 111), .int (e_n 110)] (mk I z) = some (.inl (some (.long (wcd (rwd.getD 12 [])))), mk I z) := by
    refine e_E_ret (d := d) ?_
    show e_L d 188 0 [.int (e_n 112), .int (e_n 101), .int (e_n 114), .int (e_n 115), .int (e_n 111), .int (e_n 110), .null, .null] [] (mk I z) = _
    rw [C188_0]
    rw [if_neg (by decide)]
    rw [if_neg (by decide)]
    rw [if_neg (by decide)]
    rw [if_neg (by decide)]
    exact congrArg (fun v => (some (Sum.inl (some (Value.long v)), mk I z) : e_X)) (by decide +kernel)
  refine e_E_ret (d := d + 1) ?_
  show e_L (d + 1) 189 0 [.int (e_n ((12 : Nat) : Nat))] [] (mk I z) = _
  rw [C189_0]
  rw [if_neg (by decide)]
  rw [if_neg (by decide)]
  rw [if_neg (by decide)]
  rw [if_neg (by decide)]
  rw [if_neg (by decide)]
  rw [if_neg (by decide)]
  rw [if_neg (by decide)]
  rw [if_neg (by decide)]
  rw [if_neg (by decide)]
  rw [if_neg (by decide)]
  rw [if_neg (by decide)]
  rw [if_neg (by decide)]
  rw [if_pos (by decide)]
  rw [h]
  exact C189_267
theorem c189_13 {d : Nat} {I : Nat → Nat → Int32} {z : e_Z} : e_E (d + 2) 189 [.int (e_n ((13 : Nat) : Nat))] (mk I z) = some (.inl (some (.long (wcd (rwd.getD 13 [])))), mk I z) := by
  have h : e_E (d + 1) 188 [.int (e_n 119), .int (e_n 114), .int (e_n 105), .int (e_n 116), .int (e_n 101), .int (e_n 115)] (mk I z) = some (.inl (some (.long (wcd (rwd.getD 13 [])))), mk I z) := by
    refine e_E_ret (d := d) ?_
    show e_L d 188 0 [.int (e_n 119), .int (e_n 114), .int (e_n 105), .int (e_n 116), .int (e_n 101), .int (e_n 115), .null, .null] [] (mk I z) = _
    rw [C188_0]
    rw [if_neg (by decide)]
    rw [if_neg (by decide)]
    rw [if_neg (by decide)]
    rw [if_neg (by decide)]
    exact congrArg (fun v => (some (Sum.inl (some (Value.long v)), mk I z) : e_X)) (by decide +kernel)
  refine e_E_ret (d := d + 1) ?_
  show e_L (d + 1) 189 0 [.int (e_n ((13 : Nat) : Nat))] [] (mk I z) = _
  rw [C189_0]
  rw [if_neg (by decide)]
  rw [if_neg (by decide)]
  rw [if_neg (by decide)]
  rw [if_neg (by decide)]
  rw [if_neg (by decide)]
  rw [if_neg (by decide)]
  rw [if_neg (by decide)]
  rw [if_neg (by decide)]
  rw [if_neg (by decide)]
  rw [if_neg (by decide)]
  rw [if_neg (by decide)]
  rw [if_neg (by decide)]
  rw [if_neg (by decide)]
  rw [if_pos (by decide)]
  rw [h]
  exact C189_283
theorem c189_14 {d : Nat} {I : Nat → Nat → Int32} {z : e_Z} : e_E (d + 2) 189 [.int (e_n ((14 : Nat) : Nat))] (mk I z) = some (.inl (some (.long (wcd (rwd.getD 14 [])))), mk I z) := by
  have h : e_E (d + 1) 188 [.int (e_n 97), .int (e_n 110), .int (e_n 100), .int (e_n 0), .int (e_n 0), .int (e_n 0)] (mk I z) = some (.inl (some (.long (wcd (rwd.getD 14 [])))), mk I z) := by
    refine e_E_ret (d := d) ?_
    show e_L d 188 0 [.int (e_n 97), .int (e_n 110), .int (e_n 100), .int (e_n 0), .int (e_n 0), .int (e_n 0), .null, .null] [] (mk I z) = _
    rw [C188_0]
    rw [if_neg (by decide)]
    rw [if_pos (by decide)]
    rw [if_pos (by decide)]
    rw [if_pos (by decide)]
    exact congrArg (fun v => (some (Sum.inl (some (Value.long v)), mk I z) : e_X)) (by decide +kernel)
  refine e_E_ret (d := d + 1) ?_
  show e_L (d + 1) 189 0 [.int (e_n ((14 : Nat) : Nat))] [] (mk I z) = _
  rw [C189_0]
  rw [if_neg (by decide)]
  rw [if_neg (by decide)]
  rw [if_neg (by decide)]
  rw [if_neg (by decide)]
  rw [if_neg (by decide)]
  rw [if_neg (by decide)]
  rw [if_neg (by decide)]
  rw [if_neg (by decide)]
  rw [if_neg (by decide)]
  rw [if_neg (by decide)]
  rw [if_neg (by decide)]
  rw [if_neg (by decide)]
  rw [if_neg (by decide)]
  rw [if_neg (by decide)]
  rw [if_pos (by decide)]
  rw [h]
  exact C189_296
theorem c189_15 {d : Nat} {I : Nat → Nat → Int32} {z : e_Z} : e_E (d + 2) 189 [.int (e_n ((15 : Nat) : Nat))] (mk I z) = some (.inl (some (.long (wcd (rwd.getD 15 [])))), mk I z) := by
  have h : e_E (d + 1) 188 [.int (e_n 111), .int (e_n 114), .int (e_n 0), .int (e_n 0), .int (e_n 0), .int (e_n 0)] (mk I z) = some (.inl (some (.long (wcd (rwd.getD 15 [])))), mk I z) := by
    refine e_E_ret (d := d) ?_
    show e_L d 188 0 [.int (e_n 111), .int (e_n 114), .int (e_n 0), .int (e_n 0), .int (e_n 0), .int (e_n 0), .null, .null] [] (mk I z) = _
    rw [C188_0]
    rw [if_pos (by decide)]
    rw [if_pos (by decide)]
    rw [if_pos (by decide)]
    rw [if_pos (by decide)]
    exact congrArg (fun v => (some (Sum.inl (some (Value.long v)), mk I z) : e_X)) (by decide +kernel)
  refine e_E_ret (d := d + 1) ?_
  show e_L (d + 1) 189 0 [.int (e_n ((15 : Nat) : Nat))] [] (mk I z) = _
  rw [C189_0]
  rw [if_neg (by decide)]
  rw [if_neg (by decide)]
  rw [if_neg (by decide)]
  rw [if_neg (by decide)]
  rw [if_neg (by decide)]
  rw [if_neg (by decide)]
  rw [if_neg (by decide)]
  rw [if_neg (by decide)]
  rw [if_neg (by decide)]
  rw [if_neg (by decide)]
  rw [if_neg (by decide)]
  rw [if_neg (by decide)]
  rw [if_neg (by decide)]
  rw [if_neg (by decide)]
  rw [if_neg (by decide)]
  rw [if_pos (by decide)]
  rw [h]
  exact C189_308
theorem c189_16 {d : Nat} {I : Nat → Nat → Int32} {z : e_Z} : e_E (d + 2) 189 [.int (e_n ((16 : Nat) : Nat))] (mk I z) = some (.inl (some (.long (wcd (rwd.getD 16 [])))), mk I z) := by
  have h : e_E (d + 1) 188 [.int (e_n 110), .int (e_n 111), .int (e_n 116), .int (e_n 0), .int (e_n 0), .int (e_n 0)] (mk I z) = some (.inl (some (.long (wcd (rwd.getD 16 [])))), mk I z) := by
    refine e_E_ret (d := d) ?_
    show e_L d 188 0 [.int (e_n 110), .int (e_n 111), .int (e_n 116), .int (e_n 0), .int (e_n 0), .int (e_n 0), .null, .null] [] (mk I z) = _
    rw [C188_0]
    rw [if_neg (by decide)]
    rw [if_pos (by decide)]
    rw [if_pos (by decide)]
    rw [if_pos (by decide)]
    exact congrArg (fun v => (some (Sum.inl (some (Value.long v)), mk I z) : e_X)) (by decide +kernel)
  refine e_E_ret (d := d + 1) ?_
  show e_L (d + 1) 189 0 [.int (e_n ((16 : Nat) : Nat))] [] (mk I z) = _
  rw [C189_0]
  rw [if_neg (by decide)]
  rw [if_neg (by decide)]
  rw [if_neg (by decide)]
  rw [if_neg (by decide)]
  rw [if_neg (by decide)]
  rw [if_neg (by decide)]
  rw [if_neg (by decide)]
  rw [if_neg (by decide)]
  rw [if_neg (by decide)]
  rw [if_neg (by decide)]
  rw [if_neg (by decide)]
  rw [if_neg (by decide)]
  rw [if_neg (by decide)]
  rw [if_neg (by decide)]
  rw [if_neg (by decide)]
  rw [if_neg (by decide)]
  rw [h]
  exact C189_321
end S99zo
