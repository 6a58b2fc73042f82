section EQ
/-- the switches' places, checked -/
def e_spc (m : Nat) (q : Nat × Instr × Nat × Nat) : Bool := match q.2.1 with
  | .putfield idx => (match e_look (e_fr (e_own m)) idx with
    | some (c, k, _) => (match vwCl[c - 1]? with
      | some r => decide ((r.2.1 k).2.2.2 = false) || (decide ((e_yn m).name = "<init>") && decide (r.1 = e_on (e_own m)))
      | none => false)
    | none => true)
  | .new idx => (match e_look (e_tht (e_own m)) idx with
    | some e => Nat.beq (e_own m) 11 && Nat.blt e 2 && Nat.beq idx (bif Nat.beq e 0 then 160 else 84) && (match e_fetch m (q.1 + 3), e_fetch m (q.1 + 4) with
      | some (.dup, _, _), some (.ldc is, _, _) => (match e_fetch m (q.1 + 6), e_fetch m (q.1 + 9) with
        | some (.invokespecial ic, _, _), some (.athrow, _, _) => Nat.beq ic (bif Nat.beq e 0 then 164 else 88) && e_str.any (fun z => Nat.beq z.1 is)
        | _, _ => false)
      | some (.dup, _, _), some (.ldc_w is, _, _) => (match e_fetch m (q.1 + 7), e_fetch m (q.1 + 10) with
        | some (.invokespecial ic, _, _), some (.athrow, _, _) => Nat.beq ic (bif Nat.beq e 0 then 164 else 88) && e_str.any (fun z => Nat.beq z.1 is)
        | _, _ => false)
      | _, _ => false)
    | none => true)
  | .tableswitch d lo hi offs => (match e_look ((e_look e_sws m).getD []) q.1 with
    | some (ps, dt) => decide ((q.1 : Int) + d = (dt : Int)) && decide (hi = lo + (offs.size : Int) - 1) && Nat.beq ps.length offs.size && (List.range offs.size).all (fun j => match ps[j]?, offs[j]? with
      | some (v, t), some o => decide (v.toInt = lo + (j : Int)) && decide ((q.1 : Int) + o = (t : Int))
      | _, _ => false)
    | none => false)
  | .lookupswitch d ps => (match e_look ((e_look e_sws m).getD []) q.1 with
    | some (tb, dt) => decide ((q.1 : Int) + d = (dt : Int)) && (ps.toList.zip (ps.toList.drop 1)).all (fun (a, next) => a.1 < next.1) && Nat.beq tb.length ps.toList.length && (tb.zip ps.toList).all (fun z => decide (z.1.1.toInt = z.2.1) && decide ((q.1 : Int) + z.2.2 = (z.1.2 : Int)))
    | none => false)
  | _ => true
def e_row (m : Nat) (q : Nat × Instr × Nat × Nat) : Bool :=
  decide (decode (e_cb m) q.1 = .ok (q.2.1, q.2.2.1)) && (Nat.beq (e_ln q.2.1) 0 || Nat.beq q.2.2.1 (e_ln q.2.1)) && e_cst q.2.1 && e_tg q.1 q.2.2.2 q.2.1 && e_spc m q
theorem e_rw0_0 : e_t0_0.all (e_row 0) = true := by decide +kernel
theorem e_rw0_1 : e_t0_1.all (e_row 0) = true := by decide +kernel
theorem e_rw0 : (e_tab 0).all (e_row 0) = true := by
  show (e_t0).all (e_row 0) = true
  unfold e_t0
  simp only [List.all_append, e_rw0_0, e_rw0_1, Bool.and_self]
theorem e_rw1_0 : e_t1_0.all (e_row 1) = true := by decide +kernel
theorem e_rw1 : (e_tab 1).all (e_row 1) = true := e_rw1_0
theorem e_rw2_0 : e_t2_0.all (e_row 2) = true := by decide +kernel
theorem e_rw2 : (e_tab 2).all (e_row 2) = true := e_rw2_0
theorem e_rw3_0 : e_t3_0.all (e_row 3) = true := by decide +kernel
theorem e_rw3 : (e_tab 3).all (e_row 3) = true := e_rw3_0
theorem e_rw4_0 : e_t4_0.all (e_row 4) = true := by decide +kernel
theorem e_rw4 : (e_tab 4).all (e_row 4) = true := e_rw4_0
theorem e_rw5_0 : e_t5_0.all (e_row 5) = true := by decide +kernel
theorem e_rw5 : (e_tab 5).all (e_row 5) = true := e_rw5_0
theorem e_rw6_0 : e_t6_0.all (e_row 6) = true := by decide +kernel
theorem e_rw6 : (e_tab 6).all (e_row 6) = true := e_rw6_0
theorem e_rw7_0 : e_t7_0.all (e_row 7) = true := by decide +kernel
theorem e_rw7 : (e_tab 7).all (e_row 7) = true := e_rw7_0
theorem e_rw8_0 : e_t8_0.all (e_row 8) = true := by decide +kernel
theorem e_rw8 : (e_tab 8).all (e_row 8) = true := e_rw8_0
theorem e_rw9_0 : e_t9_0.all (e_row 9) = true := by decide +kernel
theorem e_rw9 : (e_tab 9).all (e_row 9) = true := e_rw9_0
theorem e_rw10_0 : e_t10_0.all (e_row 10) = true := by decide +kernel
theorem e_rw10 : (e_tab 10).all (e_row 10) = true := e_rw10_0
theorem e_rw11_0 : e_t11_0.all (e_row 11) = true := by decide +kernel
theorem e_rw11 : (e_tab 11).all (e_row 11) = true := e_rw11_0
theorem e_rw12_0 : e_t12_0.all (e_row 12) = true := by decide +kernel
theorem e_rw12 : (e_tab 12).all (e_row 12) = true := e_rw12_0
theorem e_rw13_0 : e_t13_0.all (e_row 13) = true := by decide +kernel
theorem e_rw13 : (e_tab 13).all (e_row 13) = true := e_rw13_0
theorem e_rw14_0 : e_t14_0.all (e_row 14) = true := by decide +kernel
theorem e_rw14_1 : e_t14_1.all (e_row 14) = true := by decide +kernel
theorem e_rw14 : (e_tab 14).all (e_row 14) = true := by
  show (e_t14).all (e_row 14) = true
  unfold e_t14
  simp only [List.all_append, e_rw14_0, e_rw14_1, Bool.and_self]
theorem e_rw15_0 : e_t15_0.all (e_row 15) = true := by decide +kernel
theorem e_rw15 : (e_tab 15).all (e_row 15) = true := e_rw15_0
theorem e_rw16_0 : e_t16_0.all (e_row 16) = true := by decide +kernel
theorem e_rw16_1 : e_t16_1.all (e_row 16) = true := by decide +kernel
theorem e_rw16 : (e_tab 16).all (e_row 16) = true := by
  show (e_t16).all (e_row 16) = true
  unfold e_t16
  simp only [List.all_append, e_rw16_0, e_rw16_1, Bool.and_self]
theorem e_rw17_0 : e_t17_0.all (e_row 17) = true := by decide +kernel
theorem e_rw17_1 : e_t17_1.all (e_row 17) = true := by decide +kernel
theorem e_rw17 : (e_tab 17).all (e_row 17) = true := by
  show (e_t17).all (e_row 17) = true
  unfold e_t17
  simp only [List.all_append, e_rw17_0, e_rw17_1, Bool.and_self]
theorem e_rw18_0 : e_t18_0.all (e_row 18) = true := by decide +kernel
theorem e_rw18 : (e_tab 18).all (e_row 18) = true := e_rw18_0
theorem e_rw19_0 : e_t19_0.all (e_row 19) = true := by decide +kernel
theorem e_rw19 : (e_tab 19).all (e_row 19) = true := e_rw19_0
theorem e_rw20_0 : e_t20_0.all (e_row 20) = true := by decide +kernel
theorem e_rw20 : (e_tab 20).all (e_row 20) = true := e_rw20_0
theorem e_rw21_0 : e_t21_0.all (e_row 21) = true := by decide +kernel
theorem e_rw21 : (e_tab 21).all (e_row 21) = true := e_rw21_0
theorem e_rw22_0 : e_t22_0.all (e_row 22) = true := by decide +kernel
theorem e_rw22_1 : e_t22_1.all (e_row 22) = true := by decide +kernel
theorem e_rw22 : (e_tab 22).all (e_row 22) = true := by
  show (e_t22).all (e_row 22) = true
  unfold e_t22
  simp only [List.all_append, e_rw22_0, e_rw22_1, Bool.and_self]
theorem e_rw23_0 : e_t23_0.all (e_row 23) = true := by decide +kernel
theorem e_rw23 : (e_tab 23).all (e_row 23) = true := e_rw23_0
theorem e_rw24_0 : e_t24_0.all (e_row 24) = true := by decide +kernel
theorem e_rw24_1 : e_t24_1.all (e_row 24) = true := by decide +kernel
theorem e_rw24 : (e_tab 24).all (e_row 24) = true := by
  show (e_t24).all (e_row 24) = true
  unfold e_t24
  simp only [List.all_append, e_rw24_0, e_rw24_1, Bool.and_self]
theorem e_rw25_0 : e_t25_0.all (e_row 25) = true := by decide +kernel
theorem e_rw25 : (e_tab 25).all (e_row 25) = true := e_rw25_0
theorem e_rw26_0 : e_t26_0.all (e_row 26) = true := by decide +kernel
theorem e_rw26 : (e_tab 26).all (e_row 26) = true := e_rw26_0
theorem e_rw27_0 : e_t27_0.all (e_row 27) = true := by decide +kernel
theorem e_rw27 : (e_tab 27).all (e_row 27) = true := e_rw27_0
theorem e_rw28_0 : e_t28_0.all (e_row 28) = true := by decide +kernel
theorem e_rw28 : (e_tab 28).all (e_row 28) = true := e_rw28_0
theorem e_rw29_0 : e_t29_0.all (e_row 29) = true := by decide +kernel
theorem e_rw29 : (e_tab 29).all (e_row 29) = true := e_rw29_0
theorem e_rw30_0 : e_t30_0.all (e_row 30) = true := by decide +kernel
theorem e_rw30 : (e_tab 30).all (e_row 30) = true := e_rw30_0
theorem e_rw31_0 : e_t31_0.all (e_row 31) = true := by decide +kernel
theorem e_rw31 : (e_tab 31).all (e_row 31) = true := e_rw31_0
theorem e_rw32_0 : e_t32_0.all (e_row 32) = true := by decide +kernel
theorem e_rw32_1 : e_t32_1.all (e_row 32) = true := by decide +kernel
theorem e_rw32 : (e_tab 32).all (e_row 32) = true := by
  show (e_t32).all (e_row 32) = true
  unfold e_t32
  simp only [List.all_append, e_rw32_0, e_rw32_1, Bool.and_self]
theorem e_rw33_0 : e_t33_0.all (e_row 33) = true := by decide +kernel
theorem e_rw33 : (e_tab 33).all (e_row 33) = true := e_rw33_0
theorem e_rw34_0 : e_t34_0.all (e_row 34) = true := by decide +kernel
theorem e_rw34_1 : e_t34_1.all (e_row 34) = true := by decide +kernel
theorem e_rw34 : (e_tab 34).all (e_row 34) = true := by
  show (e_t34).all (e_row 34) = true
  unfold e_t34
  simp only [List.all_append, e_rw34_0, e_rw34_1, Bool.and_self]
theorem e_rw35_0 : e_t35_0.all (e_row 35) = true := by decide +kernel
theorem e_rw35 : (e_tab 35).all (e_row 35) = true := e_rw35_0
theorem e_rw36_0 : e_t36_0.all (e_row 36) = true := by decide +kernel
theorem e_rw36_1 : e_t36_1.all (e_row 36) = true := by decide +kernel
theorem e_rw36 : (e_tab 36).all (e_row 36) = true := by
  show (e_t36).all (e_row 36) = true
  unfold e_t36
  simp only [List.all_append, e_rw36_0, e_rw36_1, Bool.and_self]
theorem e_rw37_0 : e_t37_0.all (e_row 37) = true := by decide +kernel
theorem e_rw37 : (e_tab 37).all (e_row 37) = true := e_rw37_0
theorem e_rw38_0 : e_t38_0.all (e_row 38) = true := by decide +kernel
theorem e_rw38 : (e_tab 38).all (e_row 38) = true := e_rw38_0
theorem e_rw39_0 : e_t39_0.all (e_row 39) = true := by decide +kernel
theorem e_rw39_1 : e_t39_1.all (e_row 39) = true := by decide +kernel
theorem e_rw39 : (e_tab 39).all (e_row 39) = true := by
  show (e_t39).all (e_row 39) = true
  unfold e_t39
  simp only [List.all_append, e_rw39_0, e_rw39_1, Bool.and_self]
theorem e_rw40_0 : e_t40_0.all (e_row 40) = true := by decide +kernel
theorem e_rw40 : (e_tab 40).all (e_row 40) = true := e_rw40_0
theorem e_rw41_0 : e_t41_0.all (e_row 41) = true := by decide +kernel
theorem e_rw41 : (e_tab 41).all (e_row 41) = true := e_rw41_0
theorem e_rw42_0 : e_t42_0.all (e_row 42) = true := by decide +kernel
theorem e_rw42 : (e_tab 42).all (e_row 42) = true := e_rw42_0
theorem e_rw43_0 : e_t43_0.all (e_row 43) = true := by decide +kernel
theorem e_rw43 : (e_tab 43).all (e_row 43) = true := e_rw43_0
theorem e_rw44_0 : e_t44_0.all (e_row 44) = true := by decide +kernel
theorem e_rw44_1 : e_t44_1.all (e_row 44) = true := by decide +kernel
theorem e_rw44 : (e_tab 44).all (e_row 44) = true := by
  show (e_t44).all (e_row 44) = true
  unfold e_t44
  simp only [List.all_append, e_rw44_0, e_rw44_1, Bool.and_self]
theorem e_rw45_0 : e_t45_0.all (e_row 45) = true := by decide +kernel
theorem e_rw45 : (e_tab 45).all (e_row 45) = true := e_rw45_0
theorem e_rw46_0 : e_t46_0.all (e_row 46) = true := by decide +kernel
theorem e_rw46 : (e_tab 46).all (e_row 46) = true := e_rw46_0
theorem e_rw47_0 : e_t47_0.all (e_row 47) = true := by decide +kernel
theorem e_rw47_1 : e_t47_1.all (e_row 47) = true := by decide +kernel
theorem e_rw47 : (e_tab 47).all (e_row 47) = true := by
  show (e_t47).all (e_row 47) = true
  unfold e_t47
  simp only [List.all_append, e_rw47_0, e_rw47_1, Bool.and_self]
theorem e_rw48_0 : e_t48_0.all (e_row 48) = true := by decide +kernel
theorem e_rw48 : (e_tab 48).all (e_row 48) = true := e_rw48_0
theorem e_rw49_0 : e_t49_0.all (e_row 49) = true := by decide +kernel
theorem e_rw49 : (e_tab 49).all (e_row 49) = true := e_rw49_0
theorem e_rw50_0 : e_t50_0.all (e_row 50) = true := by decide +kernel
theorem e_rw50 : (e_tab 50).all (e_row 50) = true := e_rw50_0
theorem e_rw51_0 : e_t51_0.all (e_row 51) = true := by decide +kernel
theorem e_rw51 : (e_tab 51).all (e_row 51) = true := e_rw51_0
theorem e_rw52_0 : e_t52_0.all (e_row 52) = true := by decide +kernel
theorem e_rw52 : (e_tab 52).all (e_row 52) = true := e_rw52_0
theorem e_rw53_0 : e_t53_0.all (e_row 53) = true := by decide +kernel
theorem e_rw53 : (e_tab 53).all (e_row 53) = true := e_rw53_0
theorem e_rw54_0 : e_t54_0.all (e_row 54) = true := by decide +kernel
theorem e_rw54 : (e_tab 54).all (e_row 54) = true := e_rw54_0
theorem e_rw55_0 : e_t55_0.all (e_row 55) = true := by decide +kernel
theorem e_rw55_1 : e_t55_1.all (e_row 55) = true := by decide +kernel
theorem e_rw55_2 : e_t55_2.all (e_row 55) = true := by decide +kernel
theorem e_rw55 : (e_tab 55).all (e_row 55) = true := by
  show (e_t55).all (e_row 55) = true
  unfold e_t55
  simp only [List.all_append, e_rw55_0, e_rw55_1, e_rw55_2, Bool.and_self]
theorem e_rw56_0 : e_t56_0.all (e_row 56) = true := by decide +kernel
theorem e_rw56 : (e_tab 56).all (e_row 56) = true := e_rw56_0
theorem e_rw57_0 : e_t57_0.all (e_row 57) = true := by decide +kernel
theorem e_rw57 : (e_tab 57).all (e_row 57) = true := e_rw57_0
theorem e_rw58_0 : e_t58_0.all (e_row 58) = true := by decide +kernel
theorem e_rw58 : (e_tab 58).all (e_row 58) = true := e_rw58_0
theorem e_rw59_0 : e_t59_0.all (e_row 59) = true := by decide +kernel
theorem e_rw59 : (e_tab 59).all (e_row 59) = true := e_rw59_0
theorem e_rw60_0 : e_t60_0.all (e_row 60) = true := by decide +kernel
theorem e_rw60 : (e_tab 60).all (e_row 60) = true := e_rw60_0
theorem e_rw61_0 : e_t61_0.all (e_row 61) = true := by decide +kernel
theorem e_rw61 : (e_tab 61).all (e_row 61) = true := e_rw61_0
theorem e_rw62_0 : e_t62_0.all (e_row 62) = true := by decide +kernel
theorem e_rw62_1 : e_t62_1.all (e_row 62) = true := by decide +kernel
theorem e_rw62 : (e_tab 62).all (e_row 62) = true := by
  show (e_t62).all (e_row 62) = true
  unfold e_t62
  simp only [List.all_append, e_rw62_0, e_rw62_1, Bool.and_self]
theorem e_rw63_0 : e_t63_0.all (e_row 63) = true := by decide +kernel
theorem e_rw63 : (e_tab 63).all (e_row 63) = true := e_rw63_0
theorem e_rw64_0 : e_t64_0.all (e_row 64) = true := by decide +kernel
theorem e_rw64 : (e_tab 64).all (e_row 64) = true := e_rw64_0
theorem e_rw65_0 : e_t65_0.all (e_row 65) = true := by decide +kernel
theorem e_rw65 : (e_tab 65).all (e_row 65) = true := e_rw65_0
theorem e_rw66_0 : e_t66_0.all (e_row 66) = true := by decide +kernel
theorem e_rw66_1 : e_t66_1.all (e_row 66) = true := by decide +kernel
theorem e_rw66 : (e_tab 66).all (e_row 66) = true := by
  show (e_t66).all (e_row 66) = true
  unfold e_t66
  simp only [List.all_append, e_rw66_0, e_rw66_1, Bool.and_self]
theorem e_rw67_0 : e_t67_0.all (e_row 67) = true := by decide +kernel
theorem e_rw67 : (e_tab 67).all (e_row 67) = true := e_rw67_0
theorem e_rw68_0 : e_t68_0.all (e_row 68) = true := by decide +kernel
theorem e_rw68 : (e_tab 68).all (e_row 68) = true := e_rw68_0
theorem e_rw69_0 : e_t69_0.all (e_row 69) = true := by decide +kernel
theorem e_rw69 : (e_tab 69).all (e_row 69) = true := e_rw69_0
theorem e_rw70_0 : e_t70_0.all (e_row 70) = true := by decide +kernel
theorem e_rw70_1 : e_t70_1.all (e_row 70) = true := by decide +kernel
theorem e_rw70 : (e_tab 70).all (e_row 70) = true := by
  show (e_t70).all (e_row 70) = true
  unfold e_t70
  simp only [List.all_append, e_rw70_0, e_rw70_1, Bool.and_self]
theorem e_rw71_0 : e_t71_0.all (e_row 71) = true := by decide +kernel
theorem e_rw71 : (e_tab 71).all (e_row 71) = true := e_rw71_0
theorem e_rw72_0 : e_t72_0.all (e_row 72) = true := by decide +kernel
theorem e_rw72 : (e_tab 72).all (e_row 72) = true := e_rw72_0
theorem e_rw73_0 : e_t73_0.all (e_row 73) = true := by decide +kernel
theorem e_rw73 : (e_tab 73).all (e_row 73) = true := e_rw73_0
theorem e_rw74_0 : e_t74_0.all (e_row 74) = true := by decide +kernel
theorem e_rw74 : (e_tab 74).all (e_row 74) = true := e_rw74_0
theorem e_rw75_0 : e_t75_0.all (e_row 75) = true := by decide +kernel
theorem e_rw75 : (e_tab 75).all (e_row 75) = true := e_rw75_0
theorem e_rw76_0 : e_t76_0.all (e_row 76) = true := by decide +kernel
theorem e_rw76 : (e_tab 76).all (e_row 76) = true := e_rw76_0
theorem e_rw77_0 : e_t77_0.all (e_row 77) = true := by decide +kernel
theorem e_rw77_1 : e_t77_1.all (e_row 77) = true := by decide +kernel
theorem e_rw77 : (e_tab 77).all (e_row 77) = true := by
  show (e_t77).all (e_row 77) = true
  unfold e_t77
  simp only [List.all_append, e_rw77_0, e_rw77_1, Bool.and_self]
theorem e_rw78_0 : e_t78_0.all (e_row 78) = true := by decide +kernel
theorem e_rw78 : (e_tab 78).all (e_row 78) = true := e_rw78_0
theorem e_rw79_0 : e_t79_0.all (e_row 79) = true := by decide +kernel
theorem e_rw79_1 : e_t79_1.all (e_row 79) = true := by decide +kernel
theorem e_rw79 : (e_tab 79).all (e_row 79) = true := by
  show (e_t79).all (e_row 79) = true
  unfold e_t79
  simp only [List.all_append, e_rw79_0, e_rw79_1, Bool.and_self]
theorem e_rw80_0 : e_t80_0.all (e_row 80) = true := by decide +kernel
theorem e_rw80 : (e_tab 80).all (e_row 80) = true := e_rw80_0
theorem e_rw81_0 : e_t81_0.all (e_row 81) = true := by decide +kernel
theorem e_rw81 : (e_tab 81).all (e_row 81) = true := e_rw81_0
theorem e_rw82_0 : e_t82_0.all (e_row 82) = true := by decide +kernel
theorem e_rw82 : (e_tab 82).all (e_row 82) = true := e_rw82_0
theorem e_rw83_0 : e_t83_0.all (e_row 83) = true := by decide +kernel
theorem e_rw83_1 : e_t83_1.all (e_row 83) = true := by decide +kernel
theorem e_rw83 : (e_tab 83).all (e_row 83) = true := by
  show (e_t83).all (e_row 83) = true
  unfold e_t83
  simp only [List.all_append, e_rw83_0, e_rw83_1, Bool.and_self]
theorem e_rw84_0 : e_t84_0.all (e_row 84) = true := by decide +kernel
theorem e_rw84 : (e_tab 84).all (e_row 84) = true := e_rw84_0
theorem e_rw85_0 : e_t85_0.all (e_row 85) = true := by decide +kernel
theorem e_rw85 : (e_tab 85).all (e_row 85) = true := e_rw85_0
theorem e_rw86_0 : e_t86_0.all (e_row 86) = true := by decide +kernel
theorem e_rw86 : (e_tab 86).all (e_row 86) = true := e_rw86_0
theorem e_rw87_0 : e_t87_0.all (e_row 87) = true := by decide +kernel
theorem e_rw87 : (e_tab 87).all (e_row 87) = true := e_rw87_0
theorem e_rw88_0 : e_t88_0.all (e_row 88) = true := by decide +kernel
theorem e_rw88 : (e_tab 88).all (e_row 88) = true := e_rw88_0
theorem e_rw89_0 : e_t89_0.all (e_row 89) = true := by decide +kernel
theorem e_rw89 : (e_tab 89).all (e_row 89) = true := e_rw89_0
theorem e_rw90_0 : e_t90_0.all (e_row 90) = true := by decide +kernel
theorem e_rw90 : (e_tab 90).all (e_row 90) = true := e_rw90_0
theorem e_rw91_0 : e_t91_0.all (e_row 91) = true := by decide +kernel
theorem e_rw91_1 : e_t91_1.all (e_row 91) = true := by decide +kernel
theorem e_rw91 : (e_tab 91).all (e_row 91) = true := by
  show (e_t91).all (e_row 91) = true
  unfold e_t91
  simp only [List.all_append, e_rw91_0, e_rw91_1, Bool.and_self]
theorem e_rw92_0 : e_t92_0.all (e_row 92) = true := by decide +kernel
theorem e_rw92_1 : e_t92_1.all (e_row 92) = true := by decide +kernel
theorem e_rw92 : (e_tab 92).all (e_row 92) = true := by
  show (e_t92).all (e_row 92) = true
  unfold e_t92
  simp only [List.all_append, e_rw92_0, e_rw92_1, Bool.and_self]
theorem e_rw93_0 : e_t93_0.all (e_row 93) = true := by decide +kernel
theorem e_rw93 : (e_tab 93).all (e_row 93) = true := e_rw93_0
theorem e_rw94_0 : e_t94_0.all (e_row 94) = true := by decide +kernel
theorem e_rw94 : (e_tab 94).all (e_row 94) = true := e_rw94_0
theorem e_rw95_0 : e_t95_0.all (e_row 95) = true := by decide +kernel
theorem e_rw95_1 : e_t95_1.all (e_row 95) = true := by decide +kernel
theorem e_rw95 : (e_tab 95).all (e_row 95) = true := by
  show (e_t95).all (e_row 95) = true
  unfold e_t95
  simp only [List.all_append, e_rw95_0, e_rw95_1, Bool.and_self]
theorem e_rw96_0 : e_t96_0.all (e_row 96) = true := by decide +kernel
theorem e_rw96 : (e_tab 96).all (e_row 96) = true := e_rw96_0
theorem e_rw97_0 : e_t97_0.all (e_row 97) = true := by decide +kernel
theorem e_rw97 : (e_tab 97).all (e_row 97) = true := e_rw97_0
theorem e_rw98_0 : e_t98_0.all (e_row 98) = true := by decide +kernel
theorem e_rw98 : (e_tab 98).all (e_row 98) = true := e_rw98_0
theorem e_rw99_0 : e_t99_0.all (e_row 99) = true := by decide +kernel
theorem e_rw99 : (e_tab 99).all (e_row 99) = true := e_rw99_0
theorem e_rw100_0 : e_t100_0.all (e_row 100) = true := by decide +kernel
theorem e_rw100 : (e_tab 100).all (e_row 100) = true := e_rw100_0
theorem e_rw101_0 : e_t101_0.all (e_row 101) = true := by decide +kernel
theorem e_rw101 : (e_tab 101).all (e_row 101) = true := e_rw101_0
theorem e_rw102_0 : e_t102_0.all (e_row 102) = true := by decide +kernel
theorem e_rw102_1 : e_t102_1.all (e_row 102) = true := by decide +kernel
theorem e_rw102 : (e_tab 102).all (e_row 102) = true := by
  show (e_t102).all (e_row 102) = true
  unfold e_t102
  simp only [List.all_append, e_rw102_0, e_rw102_1, Bool.and_self]
theorem e_rw103_0 : e_t103_0.all (e_row 103) = true := by decide +kernel
theorem e_rw103 : (e_tab 103).all (e_row 103) = true := e_rw103_0
theorem e_rw104_0 : e_t104_0.all (e_row 104) = true := by decide +kernel
theorem e_rw104 : (e_tab 104).all (e_row 104) = true := e_rw104_0
theorem e_rw105_0 : e_t105_0.all (e_row 105) = true := by decide +kernel
theorem e_rw105_1 : e_t105_1.all (e_row 105) = true := by decide +kernel
theorem e_rw105 : (e_tab 105).all (e_row 105) = true := by
  show (e_t105).all (e_row 105) = true
  unfold e_t105
  simp only [List.all_append, e_rw105_0, e_rw105_1, Bool.and_self]
theorem e_rw106_0 : e_t106_0.all (e_row 106) = true := by decide +kernel
theorem e_rw106 : (e_tab 106).all (e_row 106) = true := e_rw106_0
theorem e_rw107_0 : e_t107_0.all (e_row 107) = true := by decide +kernel
theorem e_rw107_1 : e_t107_1.all (e_row 107) = true := by decide +kernel
theorem e_rw107 : (e_tab 107).all (e_row 107) = true := by
  show (e_t107).all (e_row 107) = true
  unfold e_t107
  simp only [List.all_append, e_rw107_0, e_rw107_1, Bool.and_self]
theorem e_rw108_0 : e_t108_0.all (e_row 108) = true := by decide +kernel
theorem e_rw108 : (e_tab 108).all (e_row 108) = true := e_rw108_0
theorem e_rw109_0 : e_t109_0.all (e_row 109) = true := by decide +kernel
theorem e_rw109 : (e_tab 109).all (e_row 109) = true := e_rw109_0
theorem e_rw110_0 : e_t110_0.all (e_row 110) = true := by decide +kernel
theorem e_rw110 : (e_tab 110).all (e_row 110) = true := e_rw110_0
theorem e_rw111_0 : e_t111_0.all (e_row 111) = true := by decide +kernel
theorem e_rw111 : (e_tab 111).all (e_row 111) = true := e_rw111_0
theorem e_rw112_0 : e_t112_0.all (e_row 112) = true := by decide +kernel
theorem e_rw112 : (e_tab 112).all (e_row 112) = true := e_rw112_0
theorem e_rw113_0 : e_t113_0.all (e_row 113) = true := by decide +kernel
theorem e_rw113 : (e_tab 113).all (e_row 113) = true := e_rw113_0
theorem e_rw114_0 : e_t114_0.all (e_row 114) = true := by decide +kernel
theorem e_rw114 : (e_tab 114).all (e_row 114) = true := e_rw114_0
theorem e_rw115_0 : e_t115_0.all (e_row 115) = true := by decide +kernel
theorem e_rw115_1 : e_t115_1.all (e_row 115) = true := by decide +kernel
theorem e_rw115 : (e_tab 115).all (e_row 115) = true := by
  show (e_t115).all (e_row 115) = true
  unfold e_t115
  simp only [List.all_append, e_rw115_0, e_rw115_1, Bool.and_self]
theorem e_rw116_0 : e_t116_0.all (e_row 116) = true := by decide +kernel
theorem e_rw116 : (e_tab 116).all (e_row 116) = true := e_rw116_0
theorem e_rw117_0 : e_t117_0.all (e_row 117) = true := by decide +kernel
theorem e_rw117 : (e_tab 117).all (e_row 117) = true := e_rw117_0
theorem e_rw118_0 : e_t118_0.all (e_row 118) = true := by decide +kernel
theorem e_rw118_1 : e_t118_1.all (e_row 118) = true := by decide +kernel
theorem e_rw118 : (e_tab 118).all (e_row 118) = true := by
  show (e_t118).all (e_row 118) = true
  unfold e_t118
  simp only [List.all_append, e_rw118_0, e_rw118_1, Bool.and_self]
theorem e_rw119_0 : e_t119_0.all (e_row 119) = true := by decide +kernel
theorem e_rw119 : (e_tab 119).all (e_row 119) = true := e_rw119_0
theorem e_rw120_0 : e_t120_0.all (e_row 120) = true := by decide +kernel
theorem e_rw120 : (e_tab 120).all (e_row 120) = true := e_rw120_0
theorem e_rw121_0 : e_t121_0.all (e_row 121) = true := by decide +kernel
theorem e_rw121_1 : e_t121_1.all (e_row 121) = true := by decide +kernel
theorem e_rw121_2 : e_t121_2.all (e_row 121) = true := by decide +kernel
theorem e_rw121 : (e_tab 121).all (e_row 121) = true := by
  show (e_t121).all (e_row 121) = true
  unfold e_t121
  simp only [List.all_append, e_rw121_0, e_rw121_1, e_rw121_2, Bool.and_self]
theorem e_rw122_0 : e_t122_0.all (e_row 122) = true := by decide +kernel
theorem e_rw122 : (e_tab 122).all (e_row 122) = true := e_rw122_0
theorem e_rw123_0 : e_t123_0.all (e_row 123) = true := by decide +kernel
theorem e_rw123 : (e_tab 123).all (e_row 123) = true := e_rw123_0
theorem e_rw124_0 : e_t124_0.all (e_row 124) = true := by decide +kernel
theorem e_rw124_1 : e_t124_1.all (e_row 124) = true := by decide +kernel
theorem e_rw124 : (e_tab 124).all (e_row 124) = true := by
  show (e_t124).all (e_row 124) = true
  unfold e_t124
  simp only [List.all_append, e_rw124_0, e_rw124_1, Bool.and_self]
theorem e_rw125_0 : e_t125_0.all (e_row 125) = true := by decide +kernel
theorem e_rw125 : (e_tab 125).all (e_row 125) = true := e_rw125_0
theorem e_rw126_0 : e_t126_0.all (e_row 126) = true := by decide +kernel
theorem e_rw126 : (e_tab 126).all (e_row 126) = true := e_rw126_0
theorem e_rw127_0 : e_t127_0.all (e_row 127) = true := by decide +kernel
theorem e_rw127_1 : e_t127_1.all (e_row 127) = true := by decide +kernel
theorem e_rw127 : (e_tab 127).all (e_row 127) = true := by
  show (e_t127).all (e_row 127) = true
  unfold e_t127
  simp only [List.all_append, e_rw127_0, e_rw127_1, Bool.and_self]
theorem e_rw128_0 : e_t128_0.all (e_row 128) = true := by decide +kernel
theorem e_rw128_1 : e_t128_1.all (e_row 128) = true := by decide +kernel
theorem e_rw128 : (e_tab 128).all (e_row 128) = true := by
  show (e_t128).all (e_row 128) = true
  unfold e_t128
  simp only [List.all_append, e_rw128_0, e_rw128_1, Bool.and_self]
theorem e_rw129_0 : e_t129_0.all (e_row 129) = true := by decide +kernel
theorem e_rw129 : (e_tab 129).all (e_row 129) = true := e_rw129_0
theorem e_rw130_0 : e_t130_0.all (e_row 130) = true := by decide +kernel
theorem e_rw130 : (e_tab 130).all (e_row 130) = true := e_rw130_0
theorem e_rw131_0 : e_t131_0.all (e_row 131) = true := by decide +kernel
theorem e_rw131 : (e_tab 131).all (e_row 131) = true := e_rw131_0
theorem e_rw132_0 : e_t132_0.all (e_row 132) = true := by decide +kernel
theorem e_rw132 : (e_tab 132).all (e_row 132) = true := e_rw132_0
theorem e_rw133_0 : e_t133_0.all (e_row 133) = true := by decide +kernel
theorem e_rw133 : (e_tab 133).all (e_row 133) = true := e_rw133_0
theorem e_rw134_0 : e_t134_0.all (e_row 134) = true := by decide +kernel
theorem e_rw134 : (e_tab 134).all (e_row 134) = true := e_rw134_0
theorem e_rw135_0 : e_t135_0.all (e_row 135) = true := by decide +kernel
theorem e_rw135 : (e_tab 135).all (e_row 135) = true := e_rw135_0
theorem e_rw136_0 : e_t136_0.all (e_row 136) = true := by decide +kernel
theorem e_rw136 : (e_tab 136).all (e_row 136) = true := e_rw136_0
theorem e_rw137_0 : e_t137_0.all (e_row 137) = true := by decide +kernel
theorem e_rw137 : (e_tab 137).all (e_row 137) = true := e_rw137_0
theorem e_rw138_0 : e_t138_0.all (e_row 138) = true := by decide +kernel
theorem e_rw138 : (e_tab 138).all (e_row 138) = true := e_rw138_0
theorem e_rw139_0 : e_t139_0.all (e_row 139) = true := by decide +kernel
theorem e_rw139 : (e_tab 139).all (e_row 139) = true := e_rw139_0
theorem e_rw140_0 : e_t140_0.all (e_row 140) = true := by decide +kernel
theorem e_rw140 : (e_tab 140).all (e_row 140) = true := e_rw140_0
theorem e_rw141_0 : e_t141_0.all (e_row 141) = true := by decide +kernel
theorem e_rw141_1 : e_t141_1.all (e_row 141) = true := by decide +kernel
theorem e_rw141 : (e_tab 141).all (e_row 141) = true := by
  show (e_t141).all (e_row 141) = true
  unfold e_t141
  simp only [List.all_append, e_rw141_0, e_rw141_1, Bool.and_self]
theorem e_rw142_0 : e_t142_0.all (e_row 142) = true := by decide +kernel
theorem e_rw142 : (e_tab 142).all (e_row 142) = true := e_rw142_0
theorem e_rw143_0 : e_t143_0.all (e_row 143) = true := by decide +kernel
theorem e_rw143 : (e_tab 143).all (e_row 143) = true := e_rw143_0
theorem e_rw144_0 : e_t144_0.all (e_row 144) = true := by decide +kernel
theorem e_rw144 : (e_tab 144).all (e_row 144) = true := e_rw144_0
theorem e_rw145_0 : e_t145_0.all (e_row 145) = true := by decide +kernel
theorem e_rw145 : (e_tab 145).all (e_row 145) = true := e_rw145_0
theorem e_rw146_0 : e_t146_0.all (e_row 146) = true := by decide +kernel
theorem e_rw146_1 : e_t146_1.all (e_row 146) = true := by decide +kernel
theorem e_rw146 : (e_tab 146).all (e_row 146) = true := by
  show (e_t146).all (e_row 146) = true
  unfold e_t146
  simp only [List.all_append, e_rw146_0, e_rw146_1, Bool.and_self]
theorem e_rw147_0 : e_t147_0.all (e_row 147) = true := by decide +kernel
theorem e_rw147 : (e_tab 147).all (e_row 147) = true := e_rw147_0
theorem e_rw148_0 : e_t148_0.all (e_row 148) = true := by decide +kernel
theorem e_rw148_1 : e_t148_1.all (e_row 148) = true := by decide +kernel
theorem e_rw148 : (e_tab 148).all (e_row 148) = true := by
  show (e_t148).all (e_row 148) = true
  unfold e_t148
  simp only [List.all_append, e_rw148_0, e_rw148_1, Bool.and_self]
theorem e_rw149_0 : e_t149_0.all (e_row 149) = true := by decide +kernel
theorem e_rw149 : (e_tab 149).all (e_row 149) = true := e_rw149_0
theorem e_rw150_0 : e_t150_0.all (e_row 150) = true := by decide +kernel
theorem e_rw150_1 : e_t150_1.all (e_row 150) = true := by decide +kernel
theorem e_rw150 : (e_tab 150).all (e_row 150) = true := by
  show (e_t150).all (e_row 150) = true
  unfold e_t150
  simp only [List.all_append, e_rw150_0, e_rw150_1, Bool.and_self]
theorem e_rw151_0 : e_t151_0.all (e_row 151) = true := by decide +kernel
theorem e_rw151_1 : e_t151_1.all (e_row 151) = true := by decide +kernel
theorem e_rw151 : (e_tab 151).all (e_row 151) = true := by
  show (e_t151).all (e_row 151) = true
  unfold e_t151
  simp only [List.all_append, e_rw151_0, e_rw151_1, Bool.and_self]
theorem e_rw152_0 : e_t152_0.all (e_row 152) = true := by decide +kernel
theorem e_rw152 : (e_tab 152).all (e_row 152) = true := e_rw152_0
theorem e_rw153_0 : e_t153_0.all (e_row 153) = true := by decide +kernel
theorem e_rw153 : (e_tab 153).all (e_row 153) = true := e_rw153_0
theorem e_rw154_0 : e_t154_0.all (e_row 154) = true := by decide +kernel
theorem e_rw154 : (e_tab 154).all (e_row 154) = true := e_rw154_0
theorem e_rw155_0 : e_t155_0.all (e_row 155) = true := by decide +kernel
theorem e_rw155 : (e_tab 155).all (e_row 155) = true := e_rw155_0
theorem e_rw156_0 : e_t156_0.all (e_row 156) = true := by decide +kernel
theorem e_rw156 : (e_tab 156).all (e_row 156) = true := e_rw156_0
theorem e_rw157_0 : e_t157_0.all (e_row 157) = true := by decide +kernel
theorem e_rw157_1 : e_t157_1.all (e_row 157) = true := by decide +kernel
theorem e_rw157 : (e_tab 157).all (e_row 157) = true := by
  show (e_t157).all (e_row 157) = true
  unfold e_t157
  simp only [List.all_append, e_rw157_0, e_rw157_1, Bool.and_self]
theorem e_rw158_0 : e_t158_0.all (e_row 158) = true := by decide +kernel
theorem e_rw158_1 : e_t158_1.all (e_row 158) = true := by decide +kernel
theorem e_rw158 : (e_tab 158).all (e_row 158) = true := by
  show (e_t158).all (e_row 158) = true
  unfold e_t158
  simp only [List.all_append, e_rw158_0, e_rw158_1, Bool.and_self]
theorem e_rw159_0 : e_t159_0.all (e_row 159) = true := by decide +kernel
theorem e_rw159_1 : e_t159_1.all (e_row 159) = true := by decide +kernel
theorem e_rw159_2 : e_t159_2.all (e_row 159) = true := by decide +kernel
theorem e_rw159 : (e_tab 159).all (e_row 159) = true := by
  show (e_t159).all (e_row 159) = true
  unfold e_t159
  simp only [List.all_append, e_rw159_0, e_rw159_1, e_rw159_2, Bool.and_self]
theorem e_rw160_0 : e_t160_0.all (e_row 160) = true := by decide +kernel
theorem e_rw160 : (e_tab 160).all (e_row 160) = true := e_rw160_0
theorem e_rw161_0 : e_t161_0.all (e_row 161) = true := by decide +kernel
theorem e_rw161 : (e_tab 161).all (e_row 161) = true := e_rw161_0
theorem e_rw162_0 : e_t162_0.all (e_row 162) = true := by decide +kernel
theorem e_rw162_1 : e_t162_1.all (e_row 162) = true := by decide +kernel
theorem e_rw162 : (e_tab 162).all (e_row 162) = true := by
  show (e_t162).all (e_row 162) = true
  unfold e_t162
  simp only [List.all_append, e_rw162_0, e_rw162_1, Bool.and_self]
theorem e_rw163_0 : e_t163_0.all (e_row 163) = true := by decide +kernel
theorem e_rw163 : (e_tab 163).all (e_row 163) = true := e_rw163_0
theorem e_rw164_0 : e_t164_0.all (e_row 164) = true := by decide +kernel
theorem e_rw164 : (e_tab 164).all (e_row 164) = true := e_rw164_0
theorem e_rw165_0 : e_t165_0.all (e_row 165) = true := by decide +kernel
theorem e_rw165 : (e_tab 165).all (e_row 165) = true := e_rw165_0
theorem e_rw166_0 : e_t166_0.all (e_row 166) = true := by decide +kernel
theorem e_rw166 : (e_tab 166).all (e_row 166) = true := e_rw166_0
theorem e_rw167_0 : e_t167_0.all (e_row 167) = true := by decide +kernel
theorem e_rw167 : (e_tab 167).all (e_row 167) = true := e_rw167_0
theorem e_rw168_0 : e_t168_0.all (e_row 168) = true := by decide +kernel
theorem e_rw168 : (e_tab 168).all (e_row 168) = true := e_rw168_0
theorem e_rw169_0 : e_t169_0.all (e_row 169) = true := by decide +kernel
theorem e_rw169 : (e_tab 169).all (e_row 169) = true := e_rw169_0
theorem e_rw170_0 : e_t170_0.all (e_row 170) = true := by decide +kernel
theorem e_rw170 : (e_tab 170).all (e_row 170) = true := e_rw170_0
theorem e_rw171_0 : e_t171_0.all (e_row 171) = true := by decide +kernel
theorem e_rw171 : (e_tab 171).all (e_row 171) = true := e_rw171_0
theorem e_rw172_0 : e_t172_0.all (e_row 172) = true := by decide +kernel
theorem e_rw172 : (e_tab 172).all (e_row 172) = true := e_rw172_0
theorem e_rw173_0 : e_t173_0.all (e_row 173) = true := by decide +kernel
theorem e_rw173 : (e_tab 173).all (e_row 173) = true := e_rw173_0
theorem e_rw174_0 : e_t174_0.all (e_row 174) = true := by decide +kernel
theorem e_rw174 : (e_tab 174).all (e_row 174) = true := e_rw174_0
theorem e_rw175_0 : e_t175_0.all (e_row 175) = true := by decide +kernel
theorem e_rw175_1 : e_t175_1.all (e_row 175) = true := by decide +kernel
theorem e_rw175_2 : e_t175_2.all (e_row 175) = true := by decide +kernel
theorem e_rw175_3 : e_t175_3.all (e_row 175) = true := by decide +kernel
theorem e_rw175_4 : e_t175_4.all (e_row 175) = true := by decide +kernel
theorem e_rw175_5 : e_t175_5.all (e_row 175) = true := by decide +kernel
theorem e_rw175 : (e_tab 175).all (e_row 175) = true := by
  show (e_t175).all (e_row 175) = true
  unfold e_t175
  simp only [List.all_append, e_rw175_0, e_rw175_1, e_rw175_2, e_rw175_3, e_rw175_4, e_rw175_5, Bool.and_self]
theorem e_rw176_0 : e_t176_0.all (e_row 176) = true := by decide +kernel
theorem e_rw176 : (e_tab 176).all (e_row 176) = true := e_rw176_0
theorem e_rw177_0 : e_t177_0.all (e_row 177) = true := by decide +kernel
theorem e_rw177 : (e_tab 177).all (e_row 177) = true := e_rw177_0
theorem e_rw178_0 : e_t178_0.all (e_row 178) = true := by decide +kernel
theorem e_rw178 : (e_tab 178).all (e_row 178) = true := e_rw178_0
theorem e_rw179_0 : e_t179_0.all (e_row 179) = true := by decide +kernel
theorem e_rw179 : (e_tab 179).all (e_row 179) = true := e_rw179_0
theorem e_rw180_0 : e_t180_0.all (e_row 180) = true := by decide +kernel
theorem e_rw180 : (e_tab 180).all (e_row 180) = true := e_rw180_0
theorem e_rw181_0 : e_t181_0.all (e_row 181) = true := by decide +kernel
theorem e_rw181 : (e_tab 181).all (e_row 181) = true := e_rw181_0
theorem e_rw182_0 : e_t182_0.all (e_row 182) = true := by decide +kernel
theorem e_rw182 : (e_tab 182).all (e_row 182) = true := e_rw182_0
theorem e_rw183_0 : e_t183_0.all (e_row 183) = true := by decide +kernel
theorem e_rw183 : (e_tab 183).all (e_row 183) = true := e_rw183_0
theorem e_rw184_0 : e_t184_0.all (e_row 184) = true := by decide +kernel
theorem e_rw184 : (e_tab 184).all (e_row 184) = true := e_rw184_0
theorem e_rw185_0 : e_t185_0.all (e_row 185) = true := by decide +kernel
theorem e_rw185 : (e_tab 185).all (e_row 185) = true := e_rw185_0
theorem e_rw186_0 : e_t186_0.all (e_row 186) = true := by decide +kernel
theorem e_rw186 : (e_tab 186).all (e_row 186) = true := e_rw186_0
theorem e_rw187_0 : e_t187_0.all (e_row 187) = true := by decide +kernel
theorem e_rw187_1 : e_t187_1.all (e_row 187) = true := by decide +kernel
theorem e_rw187_2 : e_t187_2.all (e_row 187) = true := by decide +kernel
theorem e_rw187_3 : e_t187_3.all (e_row 187) = true := by decide +kernel
theorem e_rw187_4 : e_t187_4.all (e_row 187) = true := by decide +kernel
theorem e_rw187 : (e_tab 187).all (e_row 187) = true := by
  show (e_t187).all (e_row 187) = true
  unfold e_t187
  simp only [List.all_append, e_rw187_0, e_rw187_1, e_rw187_2, e_rw187_3, e_rw187_4, Bool.and_self]
theorem e_rw188_0 : e_t188_0.all (e_row 188) = true := by decide +kernel
theorem e_rw188_1 : e_t188_1.all (e_row 188) = true := by decide +kernel
theorem e_rw188 : (e_tab 188).all (e_row 188) = true := by
  show (e_t188).all (e_row 188) = true
  unfold e_t188
  simp only [List.all_append, e_rw188_0, e_rw188_1, Bool.and_self]
theorem e_rw189_0 : e_t189_0.all (e_row 189) = true := by decide +kernel
theorem e_rw189_1 : e_t189_1.all (e_row 189) = true := by decide +kernel
theorem e_rw189_2 : e_t189_2.all (e_row 189) = true := by decide +kernel
theorem e_rw189_3 : e_t189_3.all (e_row 189) = true := by decide +kernel
theorem e_rw189 : (e_tab 189).all (e_row 189) = true := by
  show (e_t189).all (e_row 189) = true
  unfold e_t189
  simp only [List.all_append, e_rw189_0, e_rw189_1, e_rw189_2, e_rw189_3, Bool.and_self]
theorem e_rw190_0 : e_t190_0.all (e_row 190) = true := by decide +kernel
theorem e_rw190 : (e_tab 190).all (e_row 190) = true := e_rw190_0
theorem e_rw191_0 : e_t191_0.all (e_row 191) = true := by decide +kernel
theorem e_rw191 : (e_tab 191).all (e_row 191) = true := e_rw191_0
theorem e_rw192_0 : e_t192_0.all (e_row 192) = true := by decide +kernel
theorem e_rw192 : (e_tab 192).all (e_row 192) = true := e_rw192_0
theorem e_rw193_0 : e_t193_0.all (e_row 193) = true := by decide +kernel
theorem e_rw193 : (e_tab 193).all (e_row 193) = true := e_rw193_0
theorem e_rw194_0 : e_t194_0.all (e_row 194) = true := by decide +kernel
theorem e_rw194 : (e_tab 194).all (e_row 194) = true := e_rw194_0
theorem e_rw195_0 : e_t195_0.all (e_row 195) = true := by decide +kernel
theorem e_rw195 : (e_tab 195).all (e_row 195) = true := e_rw195_0
theorem e_rw196_0 : e_t196_0.all (e_row 196) = true := by decide +kernel
theorem e_rw196 : (e_tab 196).all (e_row 196) = true := e_rw196_0
theorem e_rw197_0 : e_t197_0.all (e_row 197) = true := by decide +kernel
theorem e_rw197 : (e_tab 197).all (e_row 197) = true := e_rw197_0
theorem e_rw198_0 : e_t198_0.all (e_row 198) = true := by decide +kernel
theorem e_rw198 : (e_tab 198).all (e_row 198) = true := e_rw198_0
theorem e_rw199_0 : e_t199_0.all (e_row 199) = true := by decide +kernel
theorem e_rw199 : (e_tab 199).all (e_row 199) = true := e_rw199_0
theorem e_rw200_0 : e_t200_0.all (e_row 200) = true := by decide +kernel
theorem e_rw200 : (e_tab 200).all (e_row 200) = true := e_rw200_0
theorem e_rw201_0 : e_t201_0.all (e_row 201) = true := by decide +kernel
theorem e_rw201 : (e_tab 201).all (e_row 201) = true := e_rw201_0
theorem e_rw202_0 : e_t202_0.all (e_row 202) = true := by decide +kernel
theorem e_rw202 : (e_tab 202).all (e_row 202) = true := e_rw202_0
theorem e_rw203_0 : e_t203_0.all (e_row 203) = true := by decide +kernel
theorem e_rw203_1 : e_t203_1.all (e_row 203) = true := by decide +kernel
theorem e_rw203 : (e_tab 203).all (e_row 203) = true := by
  show (e_t203).all (e_row 203) = true
  unfold e_t203
  simp only [List.all_append, e_rw203_0, e_rw203_1, Bool.and_self]
theorem e_rw204_0 : e_t204_0.all (e_row 204) = true := by decide +kernel
theorem e_rw204 : (e_tab 204).all (e_row 204) = true := e_rw204_0
theorem e_rw205_0 : e_t205_0.all (e_row 205) = true := by decide +kernel
theorem e_rw205_1 : e_t205_1.all (e_row 205) = true := by decide +kernel
theorem e_rw205 : (e_tab 205).all (e_row 205) = true := by
  show (e_t205).all (e_row 205) = true
  unfold e_t205
  simp only [List.all_append, e_rw205_0, e_rw205_1, Bool.and_self]
theorem e_rw206_0 : e_t206_0.all (e_row 206) = true := by decide +kernel
theorem e_rw206 : (e_tab 206).all (e_row 206) = true := e_rw206_0
theorem e_rw207_0 : e_t207_0.all (e_row 207) = true := by decide +kernel
theorem e_rw207 : (e_tab 207).all (e_row 207) = true := e_rw207_0
theorem e_rw208_0 : e_t208_0.all (e_row 208) = true := by decide +kernel
theorem e_rw208_1 : e_t208_1.all (e_row 208) = true := by decide +kernel
theorem e_rw208_2 : e_t208_2.all (e_row 208) = true := by decide +kernel
theorem e_rw208_3 : e_t208_3.all (e_row 208) = true := by decide +kernel
theorem e_rw208_4 : e_t208_4.all (e_row 208) = true := by decide +kernel
theorem e_rw208 : (e_tab 208).all (e_row 208) = true := by
  show (e_t208).all (e_row 208) = true
  unfold e_t208
  simp only [List.all_append, e_rw208_0, e_rw208_1, e_rw208_2, e_rw208_3, e_rw208_4, Bool.and_self]
theorem e_rw209_0 : e_t209_0.all (e_row 209) = true := by decide +kernel
theorem e_rw209 : (e_tab 209).all (e_row 209) = true := e_rw209_0
theorem e_rw210_0 : e_t210_0.all (e_row 210) = true := by decide +kernel
theorem e_rw210 : (e_tab 210).all (e_row 210) = true := e_rw210_0
theorem e_rw211_0 : e_t211_0.all (e_row 211) = true := by decide +kernel
theorem e_rw211_1 : e_t211_1.all (e_row 211) = true := by decide +kernel
theorem e_rw211 : (e_tab 211).all (e_row 211) = true := by
  show (e_t211).all (e_row 211) = true
  unfold e_t211
  simp only [List.all_append, e_rw211_0, e_rw211_1, Bool.and_self]
theorem e_rw212_0 : e_t212_0.all (e_row 212) = true := by decide +kernel
theorem e_rw212_1 : e_t212_1.all (e_row 212) = true := by decide +kernel
theorem e_rw212 : (e_tab 212).all (e_row 212) = true := by
  show (e_t212).all (e_row 212) = true
  unfold e_t212
  simp only [List.all_append, e_rw212_0, e_rw212_1, Bool.and_self]
theorem e_rw213_0 : e_t213_0.all (e_row 213) = true := by decide +kernel
theorem e_rw213_1 : e_t213_1.all (e_row 213) = true := by decide +kernel
theorem e_rw213 : (e_tab 213).all (e_row 213) = true := by
  show (e_t213).all (e_row 213) = true
  unfold e_t213
  simp only [List.all_append, e_rw213_0, e_rw213_1, Bool.and_self]
theorem e_rw214_0 : e_t214_0.all (e_row 214) = true := by decide +kernel
theorem e_rw214_1 : e_t214_1.all (e_row 214) = true := by decide +kernel
theorem e_rw214_2 : e_t214_2.all (e_row 214) = true := by decide +kernel
theorem e_rw214 : (e_tab 214).all (e_row 214) = true := by
  show (e_t214).all (e_row 214) = true
  unfold e_t214
  simp only [List.all_append, e_rw214_0, e_rw214_1, e_rw214_2, Bool.and_self]
theorem e_rw215_0 : e_t215_0.all (e_row 215) = true := by decide +kernel
theorem e_rw215_1 : e_t215_1.all (e_row 215) = true := by decide +kernel
theorem e_rw215_2 : e_t215_2.all (e_row 215) = true := by decide +kernel
theorem e_rw215 : (e_tab 215).all (e_row 215) = true := by
  show (e_t215).all (e_row 215) = true
  unfold e_t215
  simp only [List.all_append, e_rw215_0, e_rw215_1, e_rw215_2, Bool.and_self]
theorem e_rw216_0 : e_t216_0.all (e_row 216) = true := by decide +kernel
theorem e_rw216_1 : e_t216_1.all (e_row 216) = true := by decide +kernel
theorem e_rw216_2 : e_t216_2.all (e_row 216) = true := by decide +kernel
theorem e_rw216_3 : e_t216_3.all (e_row 216) = true := by decide +kernel
theorem e_rw216_4 : e_t216_4.all (e_row 216) = true := by decide +kernel
theorem e_rw216_5 : e_t216_5.all (e_row 216) = true := by decide +kernel
theorem e_rw216 : (e_tab 216).all (e_row 216) = true := by
  show (e_t216).all (e_row 216) = true
  unfold e_t216
  simp only [List.all_append, e_rw216_0, e_rw216_1, e_rw216_2, e_rw216_3, e_rw216_4, e_rw216_5, Bool.and_self]
theorem e_rw217_0 : e_t217_0.all (e_row 217) = true := by decide +kernel
theorem e_rw217 : (e_tab 217).all (e_row 217) = true := e_rw217_0
theorem e_rw218_0 : e_t218_0.all (e_row 218) = true := by decide +kernel
theorem e_rw218_1 : e_t218_1.all (e_row 218) = true := by decide +kernel
theorem e_rw218 : (e_tab 218).all (e_row 218) = true := by
  show (e_t218).all (e_row 218) = true
  unfold e_t218
  simp only [List.all_append, e_rw218_0, e_rw218_1, Bool.and_self]
theorem e_rw219_0 : e_t219_0.all (e_row 219) = true := by decide +kernel
theorem e_rw219 : (e_tab 219).all (e_row 219) = true := e_rw219_0
theorem e_rw220_0 : e_t220_0.all (e_row 220) = true := by decide +kernel
theorem e_rw220 : (e_tab 220).all (e_row 220) = true := e_rw220_0
theorem e_rw221_0 : e_t221_0.all (e_row 221) = true := by decide +kernel
theorem e_rw221_1 : e_t221_1.all (e_row 221) = true := by decide +kernel
theorem e_rw221 : (e_tab 221).all (e_row 221) = true := by
  show (e_t221).all (e_row 221) = true
  unfold e_t221
  simp only [List.all_append, e_rw221_0, e_rw221_1, Bool.and_self]
theorem e_rw222_0 : e_t222_0.all (e_row 222) = true := by decide +kernel
theorem e_rw222_1 : e_t222_1.all (e_row 222) = true := by decide +kernel
theorem e_rw222_2 : e_t222_2.all (e_row 222) = true := by decide +kernel
theorem e_rw222 : (e_tab 222).all (e_row 222) = true := by
  show (e_t222).all (e_row 222) = true
  unfold e_t222
  simp only [List.all_append, e_rw222_0, e_rw222_1, e_rw222_2, Bool.and_self]
theorem e_rw223_0 : e_t223_0.all (e_row 223) = true := by decide +kernel
theorem e_rw223 : (e_tab 223).all (e_row 223) = true := e_rw223_0
theorem e_rw224_0 : e_t224_0.all (e_row 224) = true := by decide +kernel
theorem e_rw224 : (e_tab 224).all (e_row 224) = true := e_rw224_0
theorem e_rw225_0 : e_t225_0.all (e_row 225) = true := by decide +kernel
theorem e_rw225 : (e_tab 225).all (e_row 225) = true := e_rw225_0
theorem e_rw226_0 : e_t226_0.all (e_row 226) = true := by decide +kernel
theorem e_rw226 : (e_tab 226).all (e_row 226) = true := e_rw226_0
theorem e_rw227_0 : e_t227_0.all (e_row 227) = true := by decide +kernel
theorem e_rw227_1 : e_t227_1.all (e_row 227) = true := by decide +kernel
theorem e_rw227_2 : e_t227_2.all (e_row 227) = true := by decide +kernel
theorem e_rw227 : (e_tab 227).all (e_row 227) = true := by
  show (e_t227).all (e_row 227) = true
  unfold e_t227
  simp only [List.all_append, e_rw227_0, e_rw227_1, e_rw227_2, Bool.and_self]
theorem e_rw228_0 : e_t228_0.all (e_row 228) = true := by decide +kernel
theorem e_rw228 : (e_tab 228).all (e_row 228) = true := e_rw228_0
theorem e_rw229_0 : e_t229_0.all (e_row 229) = true := by decide +kernel
theorem e_rw229 : (e_tab 229).all (e_row 229) = true := e_rw229_0
theorem e_rw230_0 : e_t230_0.all (e_row 230) = true := by decide +kernel
theorem e_rw230_1 : e_t230_1.all (e_row 230) = true := by decide +kernel
theorem e_rw230 : (e_tab 230).all (e_row 230) = true := by
  show (e_t230).all (e_row 230) = true
  unfold e_t230
  simp only [List.all_append, e_rw230_0, e_rw230_1, Bool.and_self]
theorem e_rw231_0 : e_t231_0.all (e_row 231) = true := by decide +kernel
theorem e_rw231 : (e_tab 231).all (e_row 231) = true := e_rw231_0
theorem e_rw232_0 : e_t232_0.all (e_row 232) = true := by decide +kernel
theorem e_rw232 : (e_tab 232).all (e_row 232) = true := e_rw232_0
theorem e_rw233_0 : e_t233_0.all (e_row 233) = true := by decide +kernel
theorem e_rw233_1 : e_t233_1.all (e_row 233) = true := by decide +kernel
theorem e_rw233 : (e_tab 233).all (e_row 233) = true := by
  show (e_t233).all (e_row 233) = true
  unfold e_t233
  simp only [List.all_append, e_rw233_0, e_rw233_1, Bool.and_self]
theorem e_rw234_0 : e_t234_0.all (e_row 234) = true := by decide +kernel
theorem e_rw234 : (e_tab 234).all (e_row 234) = true := e_rw234_0
theorem e_rw235_0 : e_t235_0.all (e_row 235) = true := by decide +kernel
theorem e_rw235 : (e_tab 235).all (e_row 235) = true := e_rw235_0
theorem e_rw236_0 : e_t236_0.all (e_row 236) = true := by decide +kernel
theorem e_rw236 : (e_tab 236).all (e_row 236) = true := e_rw236_0
theorem e_rw237_0 : e_t237_0.all (e_row 237) = true := by decide +kernel
theorem e_rw237_1 : e_t237_1.all (e_row 237) = true := by decide +kernel
theorem e_rw237 : (e_tab 237).all (e_row 237) = true := by
  show (e_t237).all (e_row 237) = true
  unfold e_t237
  simp only [List.all_append, e_rw237_0, e_rw237_1, Bool.and_self]
theorem e_rw238_0 : e_t238_0.all (e_row 238) = true := by decide +kernel
theorem e_rw238 : (e_tab 238).all (e_row 238) = true := e_rw238_0
theorem e_rw239_0 : e_t239_0.all (e_row 239) = true := by decide +kernel
theorem e_rw239 : (e_tab 239).all (e_row 239) = true := e_rw239_0
theorem e_rw240_0 : e_t240_0.all (e_row 240) = true := by decide +kernel
theorem e_rw240 : (e_tab 240).all (e_row 240) = true := e_rw240_0
theorem e_rw241_0 : e_t241_0.all (e_row 241) = true := by decide +kernel
theorem e_rw241_1 : e_t241_1.all (e_row 241) = true := by decide +kernel
theorem e_rw241 : (e_tab 241).all (e_row 241) = true := by
  show (e_t241).all (e_row 241) = true
  unfold e_t241
  simp only [List.all_append, e_rw241_0, e_rw241_1, Bool.and_self]
theorem e_rw242_0 : e_t242_0.all (e_row 242) = true := by decide +kernel
theorem e_rw242_1 : e_t242_1.all (e_row 242) = true := by decide +kernel
theorem e_rw242 : (e_tab 242).all (e_row 242) = true := by
  show (e_t242).all (e_row 242) = true
  unfold e_t242
  simp only [List.all_append, e_rw242_0, e_rw242_1, Bool.and_self]
theorem e_rw243_0 : e_t243_0.all (e_row 243) = true := by decide +kernel
theorem e_rw243 : (e_tab 243).all (e_row 243) = true := e_rw243_0
theorem e_rw244_0 : e_t244_0.all (e_row 244) = true := by decide +kernel
theorem e_rw244 : (e_tab 244).all (e_row 244) = true := e_rw244_0
theorem e_rw245_0 : e_t245_0.all (e_row 245) = true := by decide +kernel
theorem e_rw245 : (e_tab 245).all (e_row 245) = true := e_rw245_0
theorem e_rw246_0 : e_t246_0.all (e_row 246) = true := by decide +kernel
theorem e_rw246 : (e_tab 246).all (e_row 246) = true := e_rw246_0
theorem e_rw247_0 : e_t247_0.all (e_row 247) = true := by decide +kernel
theorem e_rw247_1 : e_t247_1.all (e_row 247) = true := by decide +kernel
theorem e_rw247 : (e_tab 247).all (e_row 247) = true := by
  show (e_t247).all (e_row 247) = true
  unfold e_t247
  simp only [List.all_append, e_rw247_0, e_rw247_1, Bool.and_self]
theorem e_rw248_0 : e_t248_0.all (e_row 248) = true := by decide +kernel
theorem e_rw248_1 : e_t248_1.all (e_row 248) = true := by decide +kernel
theorem e_rw248_2 : e_t248_2.all (e_row 248) = true := by decide +kernel
theorem e_rw248 : (e_tab 248).all (e_row 248) = true := by
  show (e_t248).all (e_row 248) = true
  unfold e_t248
  simp only [List.all_append, e_rw248_0, e_rw248_1, e_rw248_2, Bool.and_self]
theorem e_rw249_0 : e_t249_0.all (e_row 249) = true := by decide +kernel
theorem e_rw249_1 : e_t249_1.all (e_row 249) = true := by decide +kernel
theorem e_rw249 : (e_tab 249).all (e_row 249) = true := by
  show (e_t249).all (e_row 249) = true
  unfold e_t249
  simp only [List.all_append, e_rw249_0, e_rw249_1, Bool.and_self]
theorem e_rw250_0 : e_t250_0.all (e_row 250) = true := by decide +kernel
theorem e_rw250 : (e_tab 250).all (e_row 250) = true := e_rw250_0
theorem e_rw251_0 : e_t251_0.all (e_row 251) = true := by decide +kernel
theorem e_rw251 : (e_tab 251).all (e_row 251) = true := e_rw251_0
theorem e_rw252_0 : e_t252_0.all (e_row 252) = true := by decide +kernel
theorem e_rw252 : (e_tab 252).all (e_row 252) = true := e_rw252_0
theorem e_rw253_0 : e_t253_0.all (e_row 253) = true := by decide +kernel
theorem e_rw253 : (e_tab 253).all (e_row 253) = true := e_rw253_0
theorem e_rw254_0 : e_t254_0.all (e_row 254) = true := by decide +kernel
theorem e_rw254_1 : e_t254_1.all (e_row 254) = true := by decide +kernel
theorem e_rw254 : (e_tab 254).all (e_row 254) = true := by
  show (e_t254).all (e_row 254) = true
  unfold e_t254
  simp only [List.all_append, e_rw254_0, e_rw254_1, Bool.and_self]
theorem e_rw255_0 : e_t255_0.all (e_row 255) = true := by decide +kernel
theorem e_rw255 : (e_tab 255).all (e_row 255) = true := e_rw255_0
theorem e_rw256_0 : e_t256_0.all (e_row 256) = true := by decide +kernel
theorem e_rw256_1 : e_t256_1.all (e_row 256) = true := by decide +kernel
theorem e_rw256 : (e_tab 256).all (e_row 256) = true := by
  show (e_t256).all (e_row 256) = true
  unfold e_t256
  simp only [List.all_append, e_rw256_0, e_rw256_1, Bool.and_self]
theorem e_rw257_0 : e_t257_0.all (e_row 257) = true := by decide +kernel
theorem e_rw257 : (e_tab 257).all (e_row 257) = true := e_rw257_0
theorem e_rw258_0 : e_t258_0.all (e_row 258) = true := by decide +kernel
theorem e_rw258 : (e_tab 258).all (e_row 258) = true := e_rw258_0
theorem e_rw259_0 : e_t259_0.all (e_row 259) = true := by decide +kernel
theorem e_rw259 : (e_tab 259).all (e_row 259) = true := e_rw259_0
theorem e_rw260_0 : e_t260_0.all (e_row 260) = true := by decide +kernel
theorem e_rw260 : (e_tab 260).all (e_row 260) = true := e_rw260_0
theorem e_rw261_0 : e_t261_0.all (e_row 261) = true := by decide +kernel
theorem e_rw261 : (e_tab 261).all (e_row 261) = true := e_rw261_0
theorem e_rw262_0 : e_t262_0.all (e_row 262) = true := by decide +kernel
theorem e_rw262_1 : e_t262_1.all (e_row 262) = true := by decide +kernel
theorem e_rw262 : (e_tab 262).all (e_row 262) = true := by
  show (e_t262).all (e_row 262) = true
  unfold e_t262
  simp only [List.all_append, e_rw262_0, e_rw262_1, Bool.and_self]
theorem e_rw263_0 : e_t263_0.all (e_row 263) = true := by decide +kernel
theorem e_rw263 : (e_tab 263).all (e_row 263) = true := e_rw263_0
theorem e_rw264_0 : e_t264_0.all (e_row 264) = true := by decide +kernel
theorem e_rw264_1 : e_t264_1.all (e_row 264) = true := by decide +kernel
theorem e_rw264 : (e_tab 264).all (e_row 264) = true := by
  show (e_t264).all (e_row 264) = true
  unfold e_t264
  simp only [List.all_append, e_rw264_0, e_rw264_1, Bool.and_self]
theorem e_rw265_0 : e_t265_0.all (e_row 265) = true := by decide +kernel
theorem e_rw265 : (e_tab 265).all (e_row 265) = true := e_rw265_0
theorem e_rw266_0 : e_t266_0.all (e_row 266) = true := by decide +kernel
theorem e_rw266 : (e_tab 266).all (e_row 266) = true := e_rw266_0
theorem e_rw267_0 : e_t267_0.all (e_row 267) = true := by decide +kernel
theorem e_rw267_1 : e_t267_1.all (e_row 267) = true := by decide +kernel
theorem e_rw267 : (e_tab 267).all (e_row 267) = true := by
  show (e_t267).all (e_row 267) = true
  unfold e_t267
  simp only [List.all_append, e_rw267_0, e_rw267_1, Bool.and_self]
theorem e_rw268_0 : e_t268_0.all (e_row 268) = true := by decide +kernel
theorem e_rw268_1 : e_t268_1.all (e_row 268) = true := by decide +kernel
theorem e_rw268_2 : e_t268_2.all (e_row 268) = true := by decide +kernel
theorem e_rw268 : (e_tab 268).all (e_row 268) = true := by
  show (e_t268).all (e_row 268) = true
  unfold e_t268
  simp only [List.all_append, e_rw268_0, e_rw268_1, e_rw268_2, Bool.and_self]
theorem e_rw269_0 : e_t269_0.all (e_row 269) = true := by decide +kernel
theorem e_rw269_1 : e_t269_1.all (e_row 269) = true := by decide +kernel
theorem e_rw269_2 : e_t269_2.all (e_row 269) = true := by decide +kernel
theorem e_rw269 : (e_tab 269).all (e_row 269) = true := by
  show (e_t269).all (e_row 269) = true
  unfold e_t269
  simp only [List.all_append, e_rw269_0, e_rw269_1, e_rw269_2, Bool.and_self]
theorem e_rw270_0 : e_t270_0.all (e_row 270) = true := by decide +kernel
theorem e_rw270 : (e_tab 270).all (e_row 270) = true := e_rw270_0
theorem e_rw271_0 : e_t271_0.all (e_row 271) = true := by decide +kernel
theorem e_rw271_1 : e_t271_1.all (e_row 271) = true := by decide +kernel
theorem e_rw271 : (e_tab 271).all (e_row 271) = true := by
  show (e_t271).all (e_row 271) = true
  unfold e_t271
  simp only [List.all_append, e_rw271_0, e_rw271_1, Bool.and_self]
theorem e_rw272_0 : e_t272_0.all (e_row 272) = true := by decide +kernel
theorem e_rw272 : (e_tab 272).all (e_row 272) = true := e_rw272_0
theorem e_rw273_0 : e_t273_0.all (e_row 273) = true := by decide +kernel
theorem e_rw273_1 : e_t273_1.all (e_row 273) = true := by decide +kernel
theorem e_rw273_2 : e_t273_2.all (e_row 273) = true := by decide +kernel
theorem e_rw273_3 : e_t273_3.all (e_row 273) = true := by decide +kernel
theorem e_rw273_4 : e_t273_4.all (e_row 273) = true := by decide +kernel
theorem e_rw273 : (e_tab 273).all (e_row 273) = true := by
  show (e_t273).all (e_row 273) = true
  unfold e_t273
  simp only [List.all_append, e_rw273_0, e_rw273_1, e_rw273_2, e_rw273_3, e_rw273_4, Bool.and_self]
theorem e_rw274_0 : e_t274_0.all (e_row 274) = true := by decide +kernel
theorem e_rw274 : (e_tab 274).all (e_row 274) = true := e_rw274_0
theorem e_rw275_0 : e_t275_0.all (e_row 275) = true := by decide +kernel
theorem e_rw275 : (e_tab 275).all (e_row 275) = true := e_rw275_0
theorem e_rw276_0 : e_t276_0.all (e_row 276) = true := by decide +kernel
theorem e_rw276 : (e_tab 276).all (e_row 276) = true := e_rw276_0
theorem e_rw277_0 : e_t277_0.all (e_row 277) = true := by decide +kernel
theorem e_rw277_1 : e_t277_1.all (e_row 277) = true := by decide +kernel
theorem e_rw277 : (e_tab 277).all (e_row 277) = true := by
  show (e_t277).all (e_row 277) = true
  unfold e_t277
  simp only [List.all_append, e_rw277_0, e_rw277_1, Bool.and_self]
theorem e_rw278_0 : e_t278_0.all (e_row 278) = true := by decide +kernel
theorem e_rw278 : (e_tab 278).all (e_row 278) = true := e_rw278_0
theorem e_rw279_0 : e_t279_0.all (e_row 279) = true := by decide +kernel
theorem e_rw279 : (e_tab 279).all (e_row 279) = true := e_rw279_0
theorem e_rw280_0 : e_t280_0.all (e_row 280) = true := by decide +kernel
theorem e_rw280_1 : e_t280_1.all (e_row 280) = true := by decide +kernel
theorem e_rw280 : (e_tab 280).all (e_row 280) = true := by
  show (e_t280).all (e_row 280) = true
  unfold e_t280
  simp only [List.all_append, e_rw280_0, e_rw280_1, Bool.and_self]
theorem e_rw281_0 : e_t281_0.all (e_row 281) = true := by decide +kernel
theorem e_rw281_1 : e_t281_1.all (e_row 281) = true := by decide +kernel
theorem e_rw281 : (e_tab 281).all (e_row 281) = true := by
  show (e_t281).all (e_row 281) = true
  unfold e_t281
  simp only [List.all_append, e_rw281_0, e_rw281_1, Bool.and_self]
theorem e_rw282_0 : e_t282_0.all (e_row 282) = true := by decide +kernel
theorem e_rw282_1 : e_t282_1.all (e_row 282) = true := by decide +kernel
theorem e_rw282_2 : e_t282_2.all (e_row 282) = true := by decide +kernel
theorem e_rw282_3 : e_t282_3.all (e_row 282) = true := by decide +kernel
theorem e_rw282 : (e_tab 282).all (e_row 282) = true := by
  show (e_t282).all (e_row 282) = true
  unfold e_t282
  simp only [List.all_append, e_rw282_0, e_rw282_1, e_rw282_2, e_rw282_3, Bool.and_self]
theorem e_rw283_0 : e_t283_0.all (e_row 283) = true := by decide +kernel
theorem e_rw283_1 : e_t283_1.all (e_row 283) = true := by decide +kernel
theorem e_rw283 : (e_tab 283).all (e_row 283) = true := by
  show (e_t283).all (e_row 283) = true
  unfold e_t283
  simp only [List.all_append, e_rw283_0, e_rw283_1, Bool.and_self]
theorem e_rw284_0 : e_t284_0.all (e_row 284) = true := by decide +kernel
theorem e_rw284 : (e_tab 284).all (e_row 284) = true := e_rw284_0
theorem e_rw285_0 : e_t285_0.all (e_row 285) = true := by decide +kernel
theorem e_rw285 : (e_tab 285).all (e_row 285) = true := e_rw285_0
theorem e_rw286_0 : e_t286_0.all (e_row 286) = true := by decide +kernel
theorem e_rw286_1 : e_t286_1.all (e_row 286) = true := by decide +kernel
theorem e_rw286_2 : e_t286_2.all (e_row 286) = true := by decide +kernel
theorem e_rw286_3 : e_t286_3.all (e_row 286) = true := by decide +kernel
theorem e_rw286 : (e_tab 286).all (e_row 286) = true := by
  show (e_t286).all (e_row 286) = true
  unfold e_t286
  simp only [List.all_append, e_rw286_0, e_rw286_1, e_rw286_2, e_rw286_3, Bool.and_self]
theorem e_rw287_0 : e_t287_0.all (e_row 287) = true := by decide +kernel
theorem e_rw287 : (e_tab 287).all (e_row 287) = true := e_rw287_0
theorem e_rw288_0 : e_t288_0.all (e_row 288) = true := by decide +kernel
theorem e_rw288_1 : e_t288_1.all (e_row 288) = true := by decide +kernel
theorem e_rw288_2 : e_t288_2.all (e_row 288) = true := by decide +kernel
theorem e_rw288 : (e_tab 288).all (e_row 288) = true := by
  show (e_t288).all (e_row 288) = true
  unfold e_t288
  simp only [List.all_append, e_rw288_0, e_rw288_1, e_rw288_2, Bool.and_self]
theorem e_rw289_0 : e_t289_0.all (e_row 289) = true := by decide +kernel
theorem e_rw289_1 : e_t289_1.all (e_row 289) = true := by decide +kernel
theorem e_rw289 : (e_tab 289).all (e_row 289) = true := by
  show (e_t289).all (e_row 289) = true
  unfold e_t289
  simp only [List.all_append, e_rw289_0, e_rw289_1, Bool.and_self]
theorem e_rw290_0 : e_t290_0.all (e_row 290) = true := by decide +kernel
theorem e_rw290_1 : e_t290_1.all (e_row 290) = true := by decide +kernel
theorem e_rw290_2 : e_t290_2.all (e_row 290) = true := by decide +kernel
theorem e_rw290 : (e_tab 290).all (e_row 290) = true := by
  show (e_t290).all (e_row 290) = true
  unfold e_t290
  simp only [List.all_append, e_rw290_0, e_rw290_1, e_rw290_2, Bool.and_self]
theorem e_rw291_0 : e_t291_0.all (e_row 291) = true := by decide +kernel
theorem e_rw291_1 : e_t291_1.all (e_row 291) = true := by decide +kernel
theorem e_rw291_2 : e_t291_2.all (e_row 291) = true := by decide +kernel
theorem e_rw291_3 : e_t291_3.all (e_row 291) = true := by decide +kernel
theorem e_rw291_4 : e_t291_4.all (e_row 291) = true := by decide +kernel
theorem e_rw291 : (e_tab 291).all (e_row 291) = true := by
  show (e_t291).all (e_row 291) = true
  unfold e_t291
  simp only [List.all_append, e_rw291_0, e_rw291_1, e_rw291_2, e_rw291_3, e_rw291_4, Bool.and_self]
theorem e_rw292_0 : e_t292_0.all (e_row 292) = true := by decide +kernel
theorem e_rw292 : (e_tab 292).all (e_row 292) = true := e_rw292_0
theorem e_rw293_0 : e_t293_0.all (e_row 293) = true := by decide +kernel
theorem e_rw293_1 : e_t293_1.all (e_row 293) = true := by decide +kernel
theorem e_rw293 : (e_tab 293).all (e_row 293) = true := by
  show (e_t293).all (e_row 293) = true
  unfold e_t293
  simp only [List.all_append, e_rw293_0, e_rw293_1, Bool.and_self]
theorem e_rw294_0 : e_t294_0.all (e_row 294) = true := by decide +kernel
theorem e_rw294 : (e_tab 294).all (e_row 294) = true := e_rw294_0
theorem e_rw295_0 : e_t295_0.all (e_row 295) = true := by decide +kernel
theorem e_rw295 : (e_tab 295).all (e_row 295) = true := e_rw295_0
theorem e_rw296_0 : e_t296_0.all (e_row 296) = true := by decide +kernel
theorem e_rw296 : (e_tab 296).all (e_row 296) = true := e_rw296_0
theorem e_rw297_0 : e_t297_0.all (e_row 297) = true := by decide +kernel
theorem e_rw297 : (e_tab 297).all (e_row 297) = true := e_rw297_0
theorem e_rw298_0 : e_t298_0.all (e_row 298) = true := by decide +kernel
theorem e_rw298 : (e_tab 298).all (e_row 298) = true := e_rw298_0
theorem e_rw299_0 : e_t299_0.all (e_row 299) = true := by decide +kernel
theorem e_rw299 : (e_tab 299).all (e_row 299) = true := e_rw299_0
theorem e_rw300_0 : e_t300_0.all (e_row 300) = true := by decide +kernel
theorem e_rw300 : (e_tab 300).all (e_row 300) = true := e_rw300_0
theorem e_rw301_0 : e_t301_0.all (e_row 301) = true := by decide +kernel
theorem e_rw301 : (e_tab 301).all (e_row 301) = true := e_rw301_0
theorem e_rw302_0 : e_t302_0.all (e_row 302) = true := by decide +kernel
theorem e_rw302 : (e_tab 302).all (e_row 302) = true := e_rw302_0
theorem e_rw303_0 : e_t303_0.all (e_row 303) = true := by decide +kernel
theorem e_rw303 : (e_tab 303).all (e_row 303) = true := e_rw303_0
theorem e_rw304_0 : e_t304_0.all (e_row 304) = true := by decide +kernel
theorem e_rw304 : (e_tab 304).all (e_row 304) = true := e_rw304_0
theorem e_rw305_0 : e_t305_0.all (e_row 305) = true := by decide +kernel
theorem e_rw305 : (e_tab 305).all (e_row 305) = true := e_rw305_0
theorem e_rw306_0 : e_t306_0.all (e_row 306) = true := by decide +kernel
theorem e_rw306 : (e_tab 306).all (e_row 306) = true := e_rw306_0
theorem e_rw307_0 : e_t307_0.all (e_row 307) = true := by decide +kernel
theorem e_rw307 : (e_tab 307).all (e_row 307) = true := e_rw307_0
theorem e_rw308_0 : e_t308_0.all (e_row 308) = true := by decide +kernel
theorem e_rw308 : (e_tab 308).all (e_row 308) = true := e_rw308_0
theorem e_rw309_0 : e_t309_0.all (e_row 309) = true := by decide +kernel
theorem e_rw309 : (e_tab 309).all (e_row 309) = true := e_rw309_0
theorem e_rw310_0 : e_t310_0.all (e_row 310) = true := by decide +kernel
theorem e_rw310 : (e_tab 310).all (e_row 310) = true := e_rw310_0
theorem e_rw311_0 : e_t311_0.all (e_row 311) = true := by decide +kernel
theorem e_rw311 : (e_tab 311).all (e_row 311) = true := e_rw311_0
theorem e_rw312_0 : e_t312_0.all (e_row 312) = true := by decide +kernel
theorem e_rw312 : (e_tab 312).all (e_row 312) = true := e_rw312_0
theorem e_rw313_0 : e_t313_0.all (e_row 313) = true := by decide +kernel
theorem e_rw313 : (e_tab 313).all (e_row 313) = true := e_rw313_0
theorem e_rw314_0 : e_t314_0.all (e_row 314) = true := by decide +kernel
theorem e_rw314 : (e_tab 314).all (e_row 314) = true := e_rw314_0
theorem e_rw315_0 : e_t315_0.all (e_row 315) = true := by decide +kernel
theorem e_rw315 : (e_tab 315).all (e_row 315) = true := e_rw315_0
theorem e_rw316_0 : e_t316_0.all (e_row 316) = true := by decide +kernel
theorem e_rw316 : (e_tab 316).all (e_row 316) = true := e_rw316_0
theorem e_rw317_0 : e_t317_0.all (e_row 317) = true := by decide +kernel
theorem e_rw317 : (e_tab 317).all (e_row 317) = true := e_rw317_0
theorem e_rw318_0 : e_t318_0.all (e_row 318) = true := by decide +kernel
theorem e_rw318 : (e_tab 318).all (e_row 318) = true := e_rw318_0
theorem e_rw319_0 : e_t319_0.all (e_row 319) = true := by decide +kernel
theorem e_rw319 : (e_tab 319).all (e_row 319) = true := e_rw319_0
theorem e_rw320_0 : e_t320_0.all (e_row 320) = true := by decide +kernel
theorem e_rw320 : (e_tab 320).all (e_row 320) = true := e_rw320_0
theorem e_rw321_0 : e_t321_0.all (e_row 321) = true := by decide +kernel
theorem e_rw321 : (e_tab 321).all (e_row 321) = true := e_rw321_0
theorem e_rw322_0 : e_t322_0.all (e_row 322) = true := by decide +kernel
theorem e_rw322 : (e_tab 322).all (e_row 322) = true := e_rw322_0
theorem e_rw323_0 : e_t323_0.all (e_row 323) = true := by decide +kernel
theorem e_rw323 : (e_tab 323).all (e_row 323) = true := e_rw323_0
theorem e_rw324_0 : e_t324_0.all (e_row 324) = true := by decide +kernel
theorem e_rw324 : (e_tab 324).all (e_row 324) = true := e_rw324_0
theorem e_rw325_0 : e_t325_0.all (e_row 325) = true := by decide +kernel
theorem e_rw325_1 : e_t325_1.all (e_row 325) = true := by decide +kernel
theorem e_rw325_2 : e_t325_2.all (e_row 325) = true := by decide +kernel
theorem e_rw325_3 : e_t325_3.all (e_row 325) = true := by decide +kernel
theorem e_rw325_4 : e_t325_4.all (e_row 325) = true := by decide +kernel
theorem e_rw325_5 : e_t325_5.all (e_row 325) = true := by decide +kernel
theorem e_rw325_6 : e_t325_6.all (e_row 325) = true := by decide +kernel
theorem e_rw325_7 : e_t325_7.all (e_row 325) = true := by decide +kernel
theorem e_rw325_8 : e_t325_8.all (e_row 325) = true := by decide +kernel
theorem e_rw325_9 : e_t325_9.all (e_row 325) = true := by decide +kernel
theorem e_rw325_10 : e_t325_10.all (e_row 325) = true := by decide +kernel
theorem e_rw325_11 : e_t325_11.all (e_row 325) = true := by decide +kernel
theorem e_rw325_12 : e_t325_12.all (e_row 325) = true := by decide +kernel
theorem e_rw325_13 : e_t325_13.all (e_row 325) = true := by decide +kernel
theorem e_rw325_14 : e_t325_14.all (e_row 325) = true := by decide +kernel
theorem e_rw325_15 : e_t325_15.all (e_row 325) = true := by decide +kernel
theorem e_rw325_16 : e_t325_16.all (e_row 325) = true := by decide +kernel
theorem e_rw325_17 : e_t325_17.all (e_row 325) = true := by decide +kernel
theorem e_rw325_18 : e_t325_18.all (e_row 325) = true := by decide +kernel
theorem e_rw325_19 : e_t325_19.all (e_row 325) = true := by decide +kernel
theorem e_rw325_20 : e_t325_20.all (e_row 325) = true := by decide +kernel
theorem e_rw325_21 : e_t325_21.all (e_row 325) = true := by decide +kernel
theorem e_rw325_22 : e_t325_22.all (e_row 325) = true := by decide +kernel
theorem e_rw325_23 : e_t325_23.all (e_row 325) = true := by decide +kernel
theorem e_rw325_24 : e_t325_24.all (e_row 325) = true := by decide +kernel
theorem e_rw325_25 : e_t325_25.all (e_row 325) = true := by decide +kernel
theorem e_rw325_26 : e_t325_26.all (e_row 325) = true := by decide +kernel
theorem e_rw325_27 : e_t325_27.all (e_row 325) = true := by decide +kernel
theorem e_rw325_28 : e_t325_28.all (e_row 325) = true := by decide +kernel
theorem e_rw325_29 : e_t325_29.all (e_row 325) = true := by decide +kernel
theorem e_rw325_30 : e_t325_30.all (e_row 325) = true := by decide +kernel
theorem e_rw325_31 : e_t325_31.all (e_row 325) = true := by decide +kernel
theorem e_rw325_32 : e_t325_32.all (e_row 325) = true := by decide +kernel
theorem e_rw325_33 : e_t325_33.all (e_row 325) = true := by decide +kernel
theorem e_rw325_34 : e_t325_34.all (e_row 325) = true := by decide +kernel
theorem e_rw325 : (e_tab 325).all (e_row 325) = true := by
  show (e_t325).all (e_row 325) = true
  unfold e_t325
  simp only [List.all_append, e_rw325_0, e_rw325_1, e_rw325_2, e_rw325_3, e_rw325_4, e_rw325_5, e_rw325_6, e_rw325_7, e_rw325_8, e_rw325_9, e_rw325_10, e_rw325_11, e_rw325_12, e_rw325_13, e_rw325_14, e_rw325_15, e_rw325_16, e_rw325_17, e_rw325_18, e_rw325_19, e_rw325_20, e_rw325_21, e_rw325_22, e_rw325_23, e_rw325_24, e_rw325_25, e_rw325_26, e_rw325_27, e_rw325_28, e_rw325_29, e_rw325_30, e_rw325_31, e_rw325_32, e_rw325_33, e_rw325_34, Bool.and_self]
theorem e_rw326_0 : e_t326_0.all (e_row 326) = true := by decide +kernel
theorem e_rw326 : (e_tab 326).all (e_row 326) = true := e_rw326_0
theorem e_rw327_0 : e_t327_0.all (e_row 327) = true := by decide +kernel
theorem e_rw327 : (e_tab 327).all (e_row 327) = true := e_rw327_0
theorem e_rw328_0 : e_t328_0.all (e_row 328) = true := by decide +kernel
theorem e_rw328 : (e_tab 328).all (e_row 328) = true := e_rw328_0
theorem e_rw329_0 : e_t329_0.all (e_row 329) = true := by decide +kernel
theorem e_rw329_1 : e_t329_1.all (e_row 329) = true := by decide +kernel
theorem e_rw329 : (e_tab 329).all (e_row 329) = true := by
  show (e_t329).all (e_row 329) = true
  unfold e_t329
  simp only [List.all_append, e_rw329_0, e_rw329_1, Bool.and_self]
theorem e_rw330_0 : e_t330_0.all (e_row 330) = true := by decide +kernel
theorem e_rw330 : (e_tab 330).all (e_row 330) = true := e_rw330_0
theorem e_rw331_0 : e_t331_0.all (e_row 331) = true := by decide +kernel
theorem e_rw331 : (e_tab 331).all (e_row 331) = true := e_rw331_0
theorem e_rw332_0 : e_t332_0.all (e_row 332) = true := by decide +kernel
theorem e_rw332 : (e_tab 332).all (e_row 332) = true := e_rw332_0
theorem e_rw333_0 : e_t333_0.all (e_row 333) = true := by decide +kernel
theorem e_rw333 : (e_tab 333).all (e_row 333) = true := e_rw333_0
theorem e_rw334_0 : e_t334_0.all (e_row 334) = true := by decide +kernel
theorem e_rw334 : (e_tab 334).all (e_row 334) = true := e_rw334_0
theorem e_rw335_0 : e_t335_0.all (e_row 335) = true := by decide +kernel
theorem e_rw335 : (e_tab 335).all (e_row 335) = true := e_rw335_0
theorem e_rw336_0 : e_t336_0.all (e_row 336) = true := by decide +kernel
theorem e_rw336 : (e_tab 336).all (e_row 336) = true := e_rw336_0
theorem e_rw337_0 : e_t337_0.all (e_row 337) = true := by decide +kernel
theorem e_rw337 : (e_tab 337).all (e_row 337) = true := e_rw337_0
theorem e_rw_ok (m : Nat) (h : m < 338) : (e_tab m).all (e_row m) = true := by
  rcases Nat.lt_or_ge m 169 with h169 | h169
  · rcases Nat.lt_or_ge m 84 with h84 | h84
    · rcases Nat.lt_or_ge m 42 with h42 | h42
      · rcases Nat.lt_or_ge m 21 with h21 | h21
        · rcases Nat.lt_or_ge m 10 with h10 | h10
          · rcases Nat.lt_or_ge m 5 with h5 | h5
            · rcases Nat.lt_or_ge m 2 with h2 | h2
              · rcases Nat.lt_or_ge m 1 with h1 | h1
                · exact (show m = 0 by omega) ▸ e_rw0
                · exact (show m = 1 by omega) ▸ e_rw1
              · rcases Nat.lt_or_ge m 3 with h3 | h3
                · exact (show m = 2 by omega) ▸ e_rw2
                · rcases Nat.lt_or_ge m 4 with h4 | h4
                  · exact (show m = 3 by omega) ▸ e_rw3
                  · exact (show m = 4 by omega) ▸ e_rw4
            · rcases Nat.lt_or_ge m 7 with h7 | h7
              · rcases Nat.lt_or_ge m 6 with h6 | h6
                · exact (show m = 5 by omega) ▸ e_rw5
                · exact (show m = 6 by omega) ▸ e_rw6
              · rcases Nat.lt_or_ge m 8 with h8 | h8
                · exact (show m = 7 by omega) ▸ e_rw7
                · rcases Nat.lt_or_ge m 9 with h9 | h9
                  · exact (show m = 8 by omega) ▸ e_rw8
                  · exact (show m = 9 by omega) ▸ e_rw9
          · rcases Nat.lt_or_ge m 15 with h15 | h15
            · rcases Nat.lt_or_ge m 12 with h12 | h12
              · rcases Nat.lt_or_ge m 11 with h11 | h11
                · exact (show m = 10 by omega) ▸ e_rw10
                · exact (show m = 11 by omega) ▸ e_rw11
              · rcases Nat.lt_or_ge m 13 with h13 | h13
                · exact (show m = 12 by omega) ▸ e_rw12
                · rcases Nat.lt_or_ge m 14 with h14 | h14
                  · exact (show m = 13 by omega) ▸ e_rw13
                  · exact (show m = 14 by omega) ▸ e_rw14
            · rcases Nat.lt_or_ge m 18 with h18 | h18
              · rcases Nat.lt_or_ge m 16 with h16 | h16
                · exact (show m = 15 by omega) ▸ e_rw15
                · rcases Nat.lt_or_ge m 17 with h17 | h17
                  · exact (show m = 16 by omega) ▸ e_rw16
                  · exact (show m = 17 by omega) ▸ e_rw17
              · rcases Nat.lt_or_ge m 19 with h19 | h19
                · exact (show m = 18 by omega) ▸ e_rw18
                · rcases Nat.lt_or_ge m 20 with h20 | h20
                  · exact (show m = 19 by omega) ▸ e_rw19
                  · exact (show m = 20 by omega) ▸ e_rw20
        · rcases Nat.lt_or_ge m 31 with h31 | h31
          · rcases Nat.lt_or_ge m 26 with h26 | h26
            · rcases Nat.lt_or_ge m 23 with h23 | h23
              · rcases Nat.lt_or_ge m 22 with h22 | h22
                · exact (show m = 21 by omega) ▸ e_rw21
                · exact (show m = 22 by omega) ▸ e_rw22
              · rcases Nat.lt_or_ge m 24 with h24 | h24
                · exact (show m = 23 by omega) ▸ e_rw23
                · rcases Nat.lt_or_ge m 25 with h25 | h25
                  · exact (show m = 24 by omega) ▸ e_rw24
                  · exact (show m = 25 by omega) ▸ e_rw25
            · rcases Nat.lt_or_ge m 28 with h28 | h28
              · rcases Nat.lt_or_ge m 27 with h27 | h27
                · exact (show m = 26 by omega) ▸ e_rw26
                · exact (show m = 27 by omega) ▸ e_rw27
              · rcases Nat.lt_or_ge m 29 with h29 | h29
                · exact (show m = 28 by omega) ▸ e_rw28
                · rcases Nat.lt_or_ge m 30 with h30 | h30
                  · exact (show m = 29 by omega) ▸ e_rw29
                  · exact (show m = 30 by omega) ▸ e_rw30
          · rcases Nat.lt_or_ge m 36 with h36 | h36
            · rcases Nat.lt_or_ge m 33 with h33 | h33
              · rcases Nat.lt_or_ge m 32 with h32 | h32
                · exact (show m = 31 by omega) ▸ e_rw31
                · exact (show m = 32 by omega) ▸ e_rw32
              · rcases Nat.lt_or_ge m 34 with h34 | h34
                · exact (show m = 33 by omega) ▸ e_rw33
                · rcases Nat.lt_or_ge m 35 with h35 | h35
                  · exact (show m = 34 by omega) ▸ e_rw34
                  · exact (show m = 35 by omega) ▸ e_rw35
            · rcases Nat.lt_or_ge m 39 with h39 | h39
              · rcases Nat.lt_or_ge m 37 with h37 | h37
                · exact (show m = 36 by omega) ▸ e_rw36
                · rcases Nat.lt_or_ge m 38 with h38 | h38
                  · exact (show m = 37 by omega) ▸ e_rw37
                  · exact (show m = 38 by omega) ▸ e_rw38
              · rcases Nat.lt_or_ge m 40 with h40 | h40
                · exact (show m = 39 by omega) ▸ e_rw39
                · rcases Nat.lt_or_ge m 41 with h41 | h41
                  · exact (show m = 40 by omega) ▸ e_rw40
                  · exact (show m = 41 by omega) ▸ e_rw41
      · rcases Nat.lt_or_ge m 63 with h63 | h63
        · rcases Nat.lt_or_ge m 52 with h52 | h52
          · rcases Nat.lt_or_ge m 47 with h47 | h47
            · rcases Nat.lt_or_ge m 44 with h44 | h44
              · rcases Nat.lt_or_ge m 43 with h43 | h43
                · exact (show m = 42 by omega) ▸ e_rw42
                · exact (show m = 43 by omega) ▸ e_rw43
              · rcases Nat.lt_or_ge m 45 with h45 | h45
                · exact (show m = 44 by omega) ▸ e_rw44
                · rcases Nat.lt_or_ge m 46 with h46 | h46
                  · exact (show m = 45 by omega) ▸ e_rw45
                  · exact (show m = 46 by omega) ▸ e_rw46
            · rcases Nat.lt_or_ge m 49 with h49 | h49
              · rcases Nat.lt_or_ge m 48 with h48 | h48
                · exact (show m = 47 by omega) ▸ e_rw47
                · exact (show m = 48 by omega) ▸ e_rw48
              · rcases Nat.lt_or_ge m 50 with h50 | h50
                · exact (show m = 49 by omega) ▸ e_rw49
                · rcases Nat.lt_or_ge m 51 with h51 | h51
                  · exact (show m = 50 by omega) ▸ e_rw50
                  · exact (show m = 51 by omega) ▸ e_rw51
          · rcases Nat.lt_or_ge m 57 with h57 | h57
            · rcases Nat.lt_or_ge m 54 with h54 | h54
              · rcases Nat.lt_or_ge m 53 with h53 | h53
                · exact (show m = 52 by omega) ▸ e_rw52
                · exact (show m = 53 by omega) ▸ e_rw53
              · rcases Nat.lt_or_ge m 55 with h55 | h55
                · exact (show m = 54 by omega) ▸ e_rw54
                · rcases Nat.lt_or_ge m 56 with h56 | h56
                  · exact (show m = 55 by omega) ▸ e_rw55
                  · exact (show m = 56 by omega) ▸ e_rw56
            · rcases Nat.lt_or_ge m 60 with h60 | h60
              · rcases Nat.lt_or_ge m 58 with h58 | h58
                · exact (show m = 57 by omega) ▸ e_rw57
                · rcases Nat.lt_or_ge m 59 with h59 | h59
                  · exact (show m = 58 by omega) ▸ e_rw58
                  · exact (show m = 59 by omega) ▸ e_rw59
              · rcases Nat.lt_or_ge m 61 with h61 | h61
                · exact (show m = 60 by omega) ▸ e_rw60
                · rcases Nat.lt_or_ge m 62 with h62 | h62
                  · exact (show m = 61 by omega) ▸ e_rw61
                  · exact (show m = 62 by omega) ▸ e_rw62
        · rcases Nat.lt_or_ge m 73 with h73 | h73
          · rcases Nat.lt_or_ge m 68 with h68 | h68
            · rcases Nat.lt_or_ge m 65 with h65 | h65
              · rcases Nat.lt_or_ge m 64 with h64 | h64
                · exact (show m = 63 by omega) ▸ e_rw63
                · exact (show m = 64 by omega) ▸ e_rw64
              · rcases Nat.lt_or_ge m 66 with h66 | h66
                · exact (show m = 65 by omega) ▸ e_rw65
                · rcases Nat.lt_or_ge m 67 with h67 | h67
                  · exact (show m = 66 by omega) ▸ e_rw66
                  · exact (show m = 67 by omega) ▸ e_rw67
            · rcases Nat.lt_or_ge m 70 with h70 | h70
              · rcases Nat.lt_or_ge m 69 with h69 | h69
                · exact (show m = 68 by omega) ▸ e_rw68
                · exact (show m = 69 by omega) ▸ e_rw69
              · rcases Nat.lt_or_ge m 71 with h71 | h71
                · exact (show m = 70 by omega) ▸ e_rw70
                · rcases Nat.lt_or_ge m 72 with h72 | h72
                  · exact (show m = 71 by omega) ▸ e_rw71
                  · exact (show m = 72 by omega) ▸ e_rw72
          · rcases Nat.lt_or_ge m 78 with h78 | h78
            · rcases Nat.lt_or_ge m 75 with h75 | h75
              · rcases Nat.lt_or_ge m 74 with h74 | h74
                · exact (show m = 73 by omega) ▸ e_rw73
                · exact (show m = 74 by omega) ▸ e_rw74
              · rcases Nat.lt_or_ge m 76 with h76 | h76
                · exact (show m = 75 by omega) ▸ e_rw75
                · rcases Nat.lt_or_ge m 77 with h77 | h77
                  · exact (show m = 76 by omega) ▸ e_rw76
                  · exact (show m = 77 by omega) ▸ e_rw77
            · rcases Nat.lt_or_ge m 81 with h81 | h81
              · rcases Nat.lt_or_ge m 79 with h79 | h79
                · exact (show m = 78 by omega) ▸ e_rw78
                · rcases Nat.lt_or_ge m 80 with h80 | h80
                  · exact (show m = 79 by omega) ▸ e_rw79
                  · exact (show m = 80 by omega) ▸ e_rw80
              · rcases Nat.lt_or_ge m 82 with h82 | h82
                · exact (show m = 81 by omega) ▸ e_rw81
                · rcases Nat.lt_or_ge m 83 with h83 | h83
                  · exact (show m = 82 by omega) ▸ e_rw82
                  · exact (show m = 83 by omega) ▸ e_rw83
    · rcases Nat.lt_or_ge m 126 with h126 | h126
      · rcases Nat.lt_or_ge m 105 with h105 | h105
        · rcases Nat.lt_or_ge m 94 with h94 | h94
          · rcases Nat.lt_or_ge m 89 with h89 | h89
            · rcases Nat.lt_or_ge m 86 with h86 | h86
              · rcases Nat.lt_or_ge m 85 with h85 | h85
                · exact (show m = 84 by omega) ▸ e_rw84
                · exact (show m = 85 by omega) ▸ e_rw85
              · rcases Nat.lt_or_ge m 87 with h87 | h87
                · exact (show m = 86 by omega) ▸ e_rw86
                · rcases Nat.lt_or_ge m 88 with h88 | h88
                  · exact (show m = 87 by omega) ▸ e_rw87
                  · exact (show m = 88 by omega) ▸ e_rw88
            · rcases Nat.lt_or_ge m 91 with h91 | h91
              · rcases Nat.lt_or_ge m 90 with h90 | h90
                · exact (show m = 89 by omega) ▸ e_rw89
                · exact (show m = 90 by omega) ▸ e_rw90
              · rcases Nat.lt_or_ge m 92 with h92 | h92
                · exact (show m = 91 by omega) ▸ e_rw91
                · rcases Nat.lt_or_ge m 93 with h93 | h93
                  · exact (show m = 92 by omega) ▸ e_rw92
                  · exact (show m = 93 by omega) ▸ e_rw93
          · rcases Nat.lt_or_ge m 99 with h99 | h99
            · rcases Nat.lt_or_ge m 96 with h96 | h96
              · rcases Nat.lt_or_ge m 95 with h95 | h95
                · exact (show m = 94 by omega) ▸ e_rw94
                · exact (show m = 95 by omega) ▸ e_rw95
              · rcases Nat.lt_or_ge m 97 with h97 | h97
                · exact (show m = 96 by omega) ▸ e_rw96
                · rcases Nat.lt_or_ge m 98 with h98 | h98
                  · exact (show m = 97 by omega) ▸ e_rw97
                  · exact (show m = 98 by omega) ▸ e_rw98
            · rcases Nat.lt_or_ge m 102 with h102 | h102
              · rcases Nat.lt_or_ge m 100 with h100 | h100
                · exact (show m = 99 by omega) ▸ e_rw99
                · rcases Nat.lt_or_ge m 101 with h101 | h101
                  · exact (show m = 100 by omega) ▸ e_rw100
                  · exact (show m = 101 by omega) ▸ e_rw101
              · rcases Nat.lt_or_ge m 103 with h103 | h103
                · exact (show m = 102 by omega) ▸ e_rw102
                · rcases Nat.lt_or_ge m 104 with h104 | h104
                  · exact (show m = 103 by omega) ▸ e_rw103
                  · exact (show m = 104 by omega) ▸ e_rw104
        · rcases Nat.lt_or_ge m 115 with h115 | h115
          · rcases Nat.lt_or_ge m 110 with h110 | h110
            · rcases Nat.lt_or_ge m 107 with h107 | h107
              · rcases Nat.lt_or_ge m 106 with h106 | h106
                · exact (show m = 105 by omega) ▸ e_rw105
                · exact (show m = 106 by omega) ▸ e_rw106
              · rcases Nat.lt_or_ge m 108 with h108 | h108
                · exact (show m = 107 by omega) ▸ e_rw107
                · rcases Nat.lt_or_ge m 109 with h109 | h109
                  · exact (show m = 108 by omega) ▸ e_rw108
                  · exact (show m = 109 by omega) ▸ e_rw109
            · rcases Nat.lt_or_ge m 112 with h112 | h112
              · rcases Nat.lt_or_ge m 111 with h111 | h111
                · exact (show m = 110 by omega) ▸ e_rw110
                · exact (show m = 111 by omega) ▸ e_rw111
              · rcases Nat.lt_or_ge m 113 with h113 | h113
                · exact (show m = 112 by omega) ▸ e_rw112
                · rcases Nat.lt_or_ge m 114 with h114 | h114
                  · exact (show m = 113 by omega) ▸ e_rw113
                  · exact (show m = 114 by omega) ▸ e_rw114
          · rcases Nat.lt_or_ge m 120 with h120 | h120
            · rcases Nat.lt_or_ge m 117 with h117 | h117
              · rcases Nat.lt_or_ge m 116 with h116 | h116
                · exact (show m = 115 by omega) ▸ e_rw115
                · exact (show m = 116 by omega) ▸ e_rw116
              · rcases Nat.lt_or_ge m 118 with h118 | h118
                · exact (show m = 117 by omega) ▸ e_rw117
                · rcases Nat.lt_or_ge m 119 with h119 | h119
                  · exact (show m = 118 by omega) ▸ e_rw118
                  · exact (show m = 119 by omega) ▸ e_rw119
            · rcases Nat.lt_or_ge m 123 with h123 | h123
              · rcases Nat.lt_or_ge m 121 with h121 | h121
                · exact (show m = 120 by omega) ▸ e_rw120
                · rcases Nat.lt_or_ge m 122 with h122 | h122
                  · exact (show m = 121 by omega) ▸ e_rw121
                  · exact (show m = 122 by omega) ▸ e_rw122
              · rcases Nat.lt_or_ge m 124 with h124 | h124
                · exact (show m = 123 by omega) ▸ e_rw123
                · rcases Nat.lt_or_ge m 125 with h125 | h125
                  · exact (show m = 124 by omega) ▸ e_rw124
                  · exact (show m = 125 by omega) ▸ e_rw125
      · rcases Nat.lt_or_ge m 147 with h147 | h147
        · rcases Nat.lt_or_ge m 136 with h136 | h136
          · rcases Nat.lt_or_ge m 131 with h131 | h131
            · rcases Nat.lt_or_ge m 128 with h128 | h128
              · rcases Nat.lt_or_ge m 127 with h127 | h127
                · exact (show m = 126 by omega) ▸ e_rw126
                · exact (show m = 127 by omega) ▸ e_rw127
              · rcases Nat.lt_or_ge m 129 with h129 | h129
                · exact (show m = 128 by omega) ▸ e_rw128
                · rcases Nat.lt_or_ge m 130 with h130 | h130
                  · exact (show m = 129 by omega) ▸ e_rw129
                  · exact (show m = 130 by omega) ▸ e_rw130
            · rcases Nat.lt_or_ge m 133 with h133 | h133
              · rcases Nat.lt_or_ge m 132 with h132 | h132
                · exact (show m = 131 by omega) ▸ e_rw131
                · exact (show m = 132 by omega) ▸ e_rw132
              · rcases Nat.lt_or_ge m 134 with h134 | h134
                · exact (show m = 133 by omega) ▸ e_rw133
                · rcases Nat.lt_or_ge m 135 with h135 | h135
                  · exact (show m = 134 by omega) ▸ e_rw134
                  · exact (show m = 135 by omega) ▸ e_rw135
          · rcases Nat.lt_or_ge m 141 with h141 | h141
            · rcases Nat.lt_or_ge m 138 with h138 | h138
              · rcases Nat.lt_or_ge m 137 with h137 | h137
                · exact (show m = 136 by omega) ▸ e_rw136
                · exact (show m = 137 by omega) ▸ e_rw137
              · rcases Nat.lt_or_ge m 139 with h139 | h139
                · exact (show m = 138 by omega) ▸ e_rw138
                · rcases Nat.lt_or_ge m 140 with h140 | h140
                  · exact (show m = 139 by omega) ▸ e_rw139
                  · exact (show m = 140 by omega) ▸ e_rw140
            · rcases Nat.lt_or_ge m 144 with h144 | h144
              · rcases Nat.lt_or_ge m 142 with h142 | h142
                · exact (show m = 141 by omega) ▸ e_rw141
                · rcases Nat.lt_or_ge m 143 with h143 | h143
                  · exact (show m = 142 by omega) ▸ e_rw142
                  · exact (show m = 143 by omega) ▸ e_rw143
              · rcases Nat.lt_or_ge m 145 with h145 | h145
                · exact (show m = 144 by omega) ▸ e_rw144
                · rcases Nat.lt_or_ge m 146 with h146 | h146
                  · exact (show m = 145 by omega) ▸ e_rw145
                  · exact (show m = 146 by omega) ▸ e_rw146
        · rcases Nat.lt_or_ge m 158 with h158 | h158
          · rcases Nat.lt_or_ge m 152 with h152 | h152
            · rcases Nat.lt_or_ge m 149 with h149 | h149
              · rcases Nat.lt_or_ge m 148 with h148 | h148
                · exact (show m = 147 by omega) ▸ e_rw147
                · exact (show m = 148 by omega) ▸ e_rw148
              · rcases Nat.lt_or_ge m 150 with h150 | h150
                · exact (show m = 149 by omega) ▸ e_rw149
                · rcases Nat.lt_or_ge m 151 with h151 | h151
                  · exact (show m = 150 by omega) ▸ e_rw150
                  · exact (show m = 151 by omega) ▸ e_rw151
            · rcases Nat.lt_or_ge m 155 with h155 | h155
              · rcases Nat.lt_or_ge m 153 with h153 | h153
                · exact (show m = 152 by omega) ▸ e_rw152
                · rcases Nat.lt_or_ge m 154 with h154 | h154
                  · exact (show m = 153 by omega) ▸ e_rw153
                  · exact (show m = 154 by omega) ▸ e_rw154
              · rcases Nat.lt_or_ge m 156 with h156 | h156
                · exact (show m = 155 by omega) ▸ e_rw155
                · rcases Nat.lt_or_ge m 157 with h157 | h157
                  · exact (show m = 156 by omega) ▸ e_rw156
                  · exact (show m = 157 by omega) ▸ e_rw157
          · rcases Nat.lt_or_ge m 163 with h163 | h163
            · rcases Nat.lt_or_ge m 160 with h160 | h160
              · rcases Nat.lt_or_ge m 159 with h159 | h159
                · exact (show m = 158 by omega) ▸ e_rw158
                · exact (show m = 159 by omega) ▸ e_rw159
              · rcases Nat.lt_or_ge m 161 with h161 | h161
                · exact (show m = 160 by omega) ▸ e_rw160
                · rcases Nat.lt_or_ge m 162 with h162 | h162
                  · exact (show m = 161 by omega) ▸ e_rw161
                  · exact (show m = 162 by omega) ▸ e_rw162
            · rcases Nat.lt_or_ge m 166 with h166 | h166
              · rcases Nat.lt_or_ge m 164 with h164 | h164
                · exact (show m = 163 by omega) ▸ e_rw163
                · rcases Nat.lt_or_ge m 165 with h165 | h165
                  · exact (show m = 164 by omega) ▸ e_rw164
                  · exact (show m = 165 by omega) ▸ e_rw165
              · rcases Nat.lt_or_ge m 167 with h167 | h167
                · exact (show m = 166 by omega) ▸ e_rw166
                · rcases Nat.lt_or_ge m 168 with h168 | h168
                  · exact (show m = 167 by omega) ▸ e_rw167
                  · exact (show m = 168 by omega) ▸ e_rw168
  · rcases Nat.lt_or_ge m 253 with h253 | h253
    · rcases Nat.lt_or_ge m 211 with h211 | h211
      · rcases Nat.lt_or_ge m 190 with h190 | h190
        · rcases Nat.lt_or_ge m 179 with h179 | h179
          · rcases Nat.lt_or_ge m 174 with h174 | h174
            · rcases Nat.lt_or_ge m 171 with h171 | h171
              · rcases Nat.lt_or_ge m 170 with h170 | h170
                · exact (show m = 169 by omega) ▸ e_rw169
                · exact (show m = 170 by omega) ▸ e_rw170
              · rcases Nat.lt_or_ge m 172 with h172 | h172
                · exact (show m = 171 by omega) ▸ e_rw171
                · rcases Nat.lt_or_ge m 173 with h173 | h173
                  · exact (show m = 172 by omega) ▸ e_rw172
                  · exact (show m = 173 by omega) ▸ e_rw173
            · rcases Nat.lt_or_ge m 176 with h176 | h176
              · rcases Nat.lt_or_ge m 175 with h175 | h175
                · exact (show m = 174 by omega) ▸ e_rw174
                · exact (show m = 175 by omega) ▸ e_rw175
              · rcases Nat.lt_or_ge m 177 with h177 | h177
                · exact (show m = 176 by omega) ▸ e_rw176
                · rcases Nat.lt_or_ge m 178 with h178 | h178
                  · exact (show m = 177 by omega) ▸ e_rw177
                  · exact (show m = 178 by omega) ▸ e_rw178
          · rcases Nat.lt_or_ge m 184 with h184 | h184
            · rcases Nat.lt_or_ge m 181 with h181 | h181
              · rcases Nat.lt_or_ge m 180 with h180 | h180
                · exact (show m = 179 by omega) ▸ e_rw179
                · exact (show m = 180 by omega) ▸ e_rw180
              · rcases Nat.lt_or_ge m 182 with h182 | h182
                · exact (show m = 181 by omega) ▸ e_rw181
                · rcases Nat.lt_or_ge m 183 with h183 | h183
                  · exact (show m = 182 by omega) ▸ e_rw182
                  · exact (show m = 183 by omega) ▸ e_rw183
            · rcases Nat.lt_or_ge m 187 with h187 | h187
              · rcases Nat.lt_or_ge m 185 with h185 | h185
                · exact (show m = 184 by omega) ▸ e_rw184
                · rcases Nat.lt_or_ge m 186 with h186 | h186
                  · exact (show m = 185 by omega) ▸ e_rw185
                  · exact (show m = 186 by omega) ▸ e_rw186
              · rcases Nat.lt_or_ge m 188 with h188 | h188
                · exact (show m = 187 by omega) ▸ e_rw187
                · rcases Nat.lt_or_ge m 189 with h189 | h189
                  · exact (show m = 188 by omega) ▸ e_rw188
                  · exact (show m = 189 by omega) ▸ e_rw189
        · rcases Nat.lt_or_ge m 200 with h200 | h200
          · rcases Nat.lt_or_ge m 195 with h195 | h195
            · rcases Nat.lt_or_ge m 192 with h192 | h192
              · rcases Nat.lt_or_ge m 191 with h191 | h191
                · exact (show m = 190 by omega) ▸ e_rw190
                · exact (show m = 191 by omega) ▸ e_rw191
              · rcases Nat.lt_or_ge m 193 with h193 | h193
                · exact (show m = 192 by omega) ▸ e_rw192
                · rcases Nat.lt_or_ge m 194 with h194 | h194
                  · exact (show m = 193 by omega) ▸ e_rw193
                  · exact (show m = 194 by omega) ▸ e_rw194
            · rcases Nat.lt_or_ge m 197 with h197 | h197
              · rcases Nat.lt_or_ge m 196 with h196 | h196
                · exact (show m = 195 by omega) ▸ e_rw195
                · exact (show m = 196 by omega) ▸ e_rw196
              · rcases Nat.lt_or_ge m 198 with h198 | h198
                · exact (show m = 197 by omega) ▸ e_rw197
                · rcases Nat.lt_or_ge m 199 with h199 | h199
                  · exact (show m = 198 by omega) ▸ e_rw198
                  · exact (show m = 199 by omega) ▸ e_rw199
          · rcases Nat.lt_or_ge m 205 with h205 | h205
            · rcases Nat.lt_or_ge m 202 with h202 | h202
              · rcases Nat.lt_or_ge m 201 with h201 | h201
                · exact (show m = 200 by omega) ▸ e_rw200
                · exact (show m = 201 by omega) ▸ e_rw201
              · rcases Nat.lt_or_ge m 203 with h203 | h203
                · exact (show m = 202 by omega) ▸ e_rw202
                · rcases Nat.lt_or_ge m 204 with h204 | h204
                  · exact (show m = 203 by omega) ▸ e_rw203
                  · exact (show m = 204 by omega) ▸ e_rw204
            · rcases Nat.lt_or_ge m 208 with h208 | h208
              · rcases Nat.lt_or_ge m 206 with h206 | h206
                · exact (show m = 205 by omega) ▸ e_rw205
                · rcases Nat.lt_or_ge m 207 with h207 | h207
                  · exact (show m = 206 by omega) ▸ e_rw206
                  · exact (show m = 207 by omega) ▸ e_rw207
              · rcases Nat.lt_or_ge m 209 with h209 | h209
                · exact (show m = 208 by omega) ▸ e_rw208
                · rcases Nat.lt_or_ge m 210 with h210 | h210
                  · exact (show m = 209 by omega) ▸ e_rw209
                  · exact (show m = 210 by omega) ▸ e_rw210
      · rcases Nat.lt_or_ge m 232 with h232 | h232
        · rcases Nat.lt_or_ge m 221 with h221 | h221
          · rcases Nat.lt_or_ge m 216 with h216 | h216
            · rcases Nat.lt_or_ge m 213 with h213 | h213
              · rcases Nat.lt_or_ge m 212 with h212 | h212
                · exact (show m = 211 by omega) ▸ e_rw211
                · exact (show m = 212 by omega) ▸ e_rw212
              · rcases Nat.lt_or_ge m 214 with h214 | h214
                · exact (show m = 213 by omega) ▸ e_rw213
                · rcases Nat.lt_or_ge m 215 with h215 | h215
                  · exact (show m = 214 by omega) ▸ e_rw214
                  · exact (show m = 215 by omega) ▸ e_rw215
            · rcases Nat.lt_or_ge m 218 with h218 | h218
              · rcases Nat.lt_or_ge m 217 with h217 | h217
                · exact (show m = 216 by omega) ▸ e_rw216
                · exact (show m = 217 by omega) ▸ e_rw217
              · rcases Nat.lt_or_ge m 219 with h219 | h219
                · exact (show m = 218 by omega) ▸ e_rw218
                · rcases Nat.lt_or_ge m 220 with h220 | h220
                  · exact (show m = 219 by omega) ▸ e_rw219
                  · exact (show m = 220 by omega) ▸ e_rw220
          · rcases Nat.lt_or_ge m 226 with h226 | h226
            · rcases Nat.lt_or_ge m 223 with h223 | h223
              · rcases Nat.lt_or_ge m 222 with h222 | h222
                · exact (show m = 221 by omega) ▸ e_rw221
                · exact (show m = 222 by omega) ▸ e_rw222
              · rcases Nat.lt_or_ge m 224 with h224 | h224
                · exact (show m = 223 by omega) ▸ e_rw223
                · rcases Nat.lt_or_ge m 225 with h225 | h225
                  · exact (show m = 224 by omega) ▸ e_rw224
                  · exact (show m = 225 by omega) ▸ e_rw225
            · rcases Nat.lt_or_ge m 229 with h229 | h229
              · rcases Nat.lt_or_ge m 227 with h227 | h227
                · exact (show m = 226 by omega) ▸ e_rw226
                · rcases Nat.lt_or_ge m 228 with h228 | h228
                  · exact (show m = 227 by omega) ▸ e_rw227
                  · exact (show m = 228 by omega) ▸ e_rw228
              · rcases Nat.lt_or_ge m 230 with h230 | h230
                · exact (show m = 229 by omega) ▸ e_rw229
                · rcases Nat.lt_or_ge m 231 with h231 | h231
                  · exact (show m = 230 by omega) ▸ e_rw230
                  · exact (show m = 231 by omega) ▸ e_rw231
        · rcases Nat.lt_or_ge m 242 with h242 | h242
          · rcases Nat.lt_or_ge m 237 with h237 | h237
            · rcases Nat.lt_or_ge m 234 with h234 | h234
              · rcases Nat.lt_or_ge m 233 with h233 | h233
                · exact (show m = 232 by omega) ▸ e_rw232
                · exact (show m = 233 by omega) ▸ e_rw233
              · rcases Nat.lt_or_ge m 235 with h235 | h235
                · exact (show m = 234 by omega) ▸ e_rw234
                · rcases Nat.lt_or_ge m 236 with h236 | h236
                  · exact (show m = 235 by omega) ▸ e_rw235
                  · exact (show m = 236 by omega) ▸ e_rw236
            · rcases Nat.lt_or_ge m 239 with h239 | h239
              · rcases Nat.lt_or_ge m 238 with h238 | h238
                · exact (show m = 237 by omega) ▸ e_rw237
                · exact (show m = 238 by omega) ▸ e_rw238
              · rcases Nat.lt_or_ge m 240 with h240 | h240
                · exact (show m = 239 by omega) ▸ e_rw239
                · rcases Nat.lt_or_ge m 241 with h241 | h241
                  · exact (show m = 240 by omega) ▸ e_rw240
                  · exact (show m = 241 by omega) ▸ e_rw241
          · rcases Nat.lt_or_ge m 247 with h247 | h247
            · rcases Nat.lt_or_ge m 244 with h244 | h244
              · rcases Nat.lt_or_ge m 243 with h243 | h243
                · exact (show m = 242 by omega) ▸ e_rw242
                · exact (show m = 243 by omega) ▸ e_rw243
              · rcases Nat.lt_or_ge m 245 with h245 | h245
                · exact (show m = 244 by omega) ▸ e_rw244
                · rcases Nat.lt_or_ge m 246 with h246 | h246
                  · exact (show m = 245 by omega) ▸ e_rw245
                  · exact (show m = 246 by omega) ▸ e_rw246
            · rcases Nat.lt_or_ge m 250 with h250 | h250
              · rcases Nat.lt_or_ge m 248 with h248 | h248
                · exact (show m = 247 by omega) ▸ e_rw247
                · rcases Nat.lt_or_ge m 249 with h249 | h249
                  · exact (show m = 248 by omega) ▸ e_rw248
                  · exact (show m = 249 by omega) ▸ e_rw249
              · rcases Nat.lt_or_ge m 251 with h251 | h251
                · exact (show m = 250 by omega) ▸ e_rw250
                · rcases Nat.lt_or_ge m 252 with h252 | h252
                  · exact (show m = 251 by omega) ▸ e_rw251
                  · exact (show m = 252 by omega) ▸ e_rw252
    · rcases Nat.lt_or_ge m 295 with h295 | h295
      · rcases Nat.lt_or_ge m 274 with h274 | h274
        · rcases Nat.lt_or_ge m 263 with h263 | h263
          · rcases Nat.lt_or_ge m 258 with h258 | h258
            · rcases Nat.lt_or_ge m 255 with h255 | h255
              · rcases Nat.lt_or_ge m 254 with h254 | h254
                · exact (show m = 253 by omega) ▸ e_rw253
                · exact (show m = 254 by omega) ▸ e_rw254
              · rcases Nat.lt_or_ge m 256 with h256 | h256
                · exact (show m = 255 by omega) ▸ e_rw255
                · rcases Nat.lt_or_ge m 257 with h257 | h257
                  · exact (show m = 256 by omega) ▸ e_rw256
                  · exact (show m = 257 by omega) ▸ e_rw257
            · rcases Nat.lt_or_ge m 260 with h260 | h260
              · rcases Nat.lt_or_ge m 259 with h259 | h259
                · exact (show m = 258 by omega) ▸ e_rw258
                · exact (show m = 259 by omega) ▸ e_rw259
              · rcases Nat.lt_or_ge m 261 with h261 | h261
                · exact (show m = 260 by omega) ▸ e_rw260
                · rcases Nat.lt_or_ge m 262 with h262 | h262
                  · exact (show m = 261 by omega) ▸ e_rw261
                  · exact (show m = 262 by omega) ▸ e_rw262
          · rcases Nat.lt_or_ge m 268 with h268 | h268
            · rcases Nat.lt_or_ge m 265 with h265 | h265
              · rcases Nat.lt_or_ge m 264 with h264 | h264
                · exact (show m = 263 by omega) ▸ e_rw263
                · exact (show m = 264 by omega) ▸ e_rw264
              · rcases Nat.lt_or_ge m 266 with h266 | h266
                · exact (show m = 265 by omega) ▸ e_rw265
                · rcases Nat.lt_or_ge m 267 with h267 | h267
                  · exact (show m = 266 by omega) ▸ e_rw266
                  · exact (show m = 267 by omega) ▸ e_rw267
            · rcases Nat.lt_or_ge m 271 with h271 | h271
              · rcases Nat.lt_or_ge m 269 with h269 | h269
                · exact (show m = 268 by omega) ▸ e_rw268
                · rcases Nat.lt_or_ge m 270 with h270 | h270
                  · exact (show m = 269 by omega) ▸ e_rw269
                  · exact (show m = 270 by omega) ▸ e_rw270
              · rcases Nat.lt_or_ge m 272 with h272 | h272
                · exact (show m = 271 by omega) ▸ e_rw271
                · rcases Nat.lt_or_ge m 273 with h273 | h273
                  · exact (show m = 272 by omega) ▸ e_rw272
                  · exact (show m = 273 by omega) ▸ e_rw273
        · rcases Nat.lt_or_ge m 284 with h284 | h284
          · rcases Nat.lt_or_ge m 279 with h279 | h279
            · rcases Nat.lt_or_ge m 276 with h276 | h276
              · rcases Nat.lt_or_ge m 275 with h275 | h275
                · exact (show m = 274 by omega) ▸ e_rw274
                · exact (show m = 275 by omega) ▸ e_rw275
              · rcases Nat.lt_or_ge m 277 with h277 | h277
                · exact (show m = 276 by omega) ▸ e_rw276
                · rcases Nat.lt_or_ge m 278 with h278 | h278
                  · exact (show m = 277 by omega) ▸ e_rw277
                  · exact (show m = 278 by omega) ▸ e_rw278
            · rcases Nat.lt_or_ge m 281 with h281 | h281
              · rcases Nat.lt_or_ge m 280 with h280 | h280
                · exact (show m = 279 by omega) ▸ e_rw279
                · exact (show m = 280 by omega) ▸ e_rw280
              · rcases Nat.lt_or_ge m 282 with h282 | h282
                · exact (show m = 281 by omega) ▸ e_rw281
                · rcases Nat.lt_or_ge m 283 with h283 | h283
                  · exact (show m = 282 by omega) ▸ e_rw282
                  · exact (show m = 283 by omega) ▸ e_rw283
          · rcases Nat.lt_or_ge m 289 with h289 | h289
            · rcases Nat.lt_or_ge m 286 with h286 | h286
              · rcases Nat.lt_or_ge m 285 with h285 | h285
                · exact (show m = 284 by omega) ▸ e_rw284
                · exact (show m = 285 by omega) ▸ e_rw285
              · rcases Nat.lt_or_ge m 287 with h287 | h287
                · exact (show m = 286 by omega) ▸ e_rw286
                · rcases Nat.lt_or_ge m 288 with h288 | h288
                  · exact (show m = 287 by omega) ▸ e_rw287
                  · exact (show m = 288 by omega) ▸ e_rw288
            · rcases Nat.lt_or_ge m 292 with h292 | h292
              · rcases Nat.lt_or_ge m 290 with h290 | h290
                · exact (show m = 289 by omega) ▸ e_rw289
                · rcases Nat.lt_or_ge m 291 with h291 | h291
                  · exact (show m = 290 by omega) ▸ e_rw290
                  · exact (show m = 291 by omega) ▸ e_rw291
              · rcases Nat.lt_or_ge m 293 with h293 | h293
                · exact (show m = 292 by omega) ▸ e_rw292
                · rcases Nat.lt_or_ge m 294 with h294 | h294
                  · exact (show m = 293 by omega) ▸ e_rw293
                  · exact (show m = 294 by omega) ▸ e_rw294
      · rcases Nat.lt_or_ge m 316 with h316 | h316
        · rcases Nat.lt_or_ge m 305 with h305 | h305
          · rcases Nat.lt_or_ge m 300 with h300 | h300
            · rcases Nat.lt_or_ge m 297 with h297 | h297
              · rcases Nat.lt_or_ge m 296 with h296 | h296
                · exact (show m = 295 by omega) ▸ e_rw295
                · exact (show m = 296 by omega) ▸ e_rw296
              · rcases Nat.lt_or_ge m 298 with h298 | h298
                · exact (show m = 297 by omega) ▸ e_rw297
                · rcases Nat.lt_or_ge m 299 with h299 | h299
                  · exact (show m = 298 by omega) ▸ e_rw298
                  · exact (show m = 299 by omega) ▸ e_rw299
            · rcases Nat.lt_or_ge m 302 with h302 | h302
              · rcases Nat.lt_or_ge m 301 with h301 | h301
                · exact (show m = 300 by omega) ▸ e_rw300
                · exact (show m = 301 by omega) ▸ e_rw301
              · rcases Nat.lt_or_ge m 303 with h303 | h303
                · exact (show m = 302 by omega) ▸ e_rw302
                · rcases Nat.lt_or_ge m 304 with h304 | h304
                  · exact (show m = 303 by omega) ▸ e_rw303
                  · exact (show m = 304 by omega) ▸ e_rw304
          · rcases Nat.lt_or_ge m 310 with h310 | h310
            · rcases Nat.lt_or_ge m 307 with h307 | h307
              · rcases Nat.lt_or_ge m 306 with h306 | h306
                · exact (show m = 305 by omega) ▸ e_rw305
                · exact (show m = 306 by omega) ▸ e_rw306
              · rcases Nat.lt_or_ge m 308 with h308 | h308
                · exact (show m = 307 by omega) ▸ e_rw307
                · rcases Nat.lt_or_ge m 309 with h309 | h309
                  · exact (show m = 308 by omega) ▸ e_rw308
                  · exact (show m = 309 by omega) ▸ e_rw309
            · rcases Nat.lt_or_ge m 313 with h313 | h313
              · rcases Nat.lt_or_ge m 311 with h311 | h311
                · exact (show m = 310 by omega) ▸ e_rw310
                · rcases Nat.lt_or_ge m 312 with h312 | h312
                  · exact (show m = 311 by omega) ▸ e_rw311
                  · exact (show m = 312 by omega) ▸ e_rw312
              · rcases Nat.lt_or_ge m 314 with h314 | h314
                · exact (show m = 313 by omega) ▸ e_rw313
                · rcases Nat.lt_or_ge m 315 with h315 | h315
                  · exact (show m = 314 by omega) ▸ e_rw314
                  · exact (show m = 315 by omega) ▸ e_rw315
        · rcases Nat.lt_or_ge m 327 with h327 | h327
          · rcases Nat.lt_or_ge m 321 with h321 | h321
            · rcases Nat.lt_or_ge m 318 with h318 | h318
              · rcases Nat.lt_or_ge m 317 with h317 | h317
                · exact (show m = 316 by omega) ▸ e_rw316
                · exact (show m = 317 by omega) ▸ e_rw317
              · rcases Nat.lt_or_ge m 319 with h319 | h319
                · exact (show m = 318 by omega) ▸ e_rw318
                · rcases Nat.lt_or_ge m 320 with h320 | h320
                  · exact (show m = 319 by omega) ▸ e_rw319
                  · exact (show m = 320 by omega) ▸ e_rw320
            · rcases Nat.lt_or_ge m 324 with h324 | h324
              · rcases Nat.lt_or_ge m 322 with h322 | h322
                · exact (show m = 321 by omega) ▸ e_rw321
                · rcases Nat.lt_or_ge m 323 with h323 | h323
                  · exact (show m = 322 by omega) ▸ e_rw322
                  · exact (show m = 323 by omega) ▸ e_rw323
              · rcases Nat.lt_or_ge m 325 with h325 | h325
                · exact (show m = 324 by omega) ▸ e_rw324
                · rcases Nat.lt_or_ge m 326 with h326 | h326
                  · exact (show m = 325 by omega) ▸ e_rw325
                  · exact (show m = 326 by omega) ▸ e_rw326
          · rcases Nat.lt_or_ge m 332 with h332 | h332
            · rcases Nat.lt_or_ge m 329 with h329 | h329
              · rcases Nat.lt_or_ge m 328 with h328 | h328
                · exact (show m = 327 by omega) ▸ e_rw327
                · exact (show m = 328 by omega) ▸ e_rw328
              · rcases Nat.lt_or_ge m 330 with h330 | h330
                · exact (show m = 329 by omega) ▸ e_rw329
                · rcases Nat.lt_or_ge m 331 with h331 | h331
                  · exact (show m = 330 by omega) ▸ e_rw330
                  · exact (show m = 331 by omega) ▸ e_rw331
            · rcases Nat.lt_or_ge m 335 with h335 | h335
              · rcases Nat.lt_or_ge m 333 with h333 | h333
                · exact (show m = 332 by omega) ▸ e_rw332
                · rcases Nat.lt_or_ge m 334 with h334 | h334
                  · exact (show m = 333 by omega) ▸ e_rw333
                  · exact (show m = 334 by omega) ▸ e_rw334
              · rcases Nat.lt_or_ge m 336 with h336 | h336
                · exact (show m = 335 by omega) ▸ e_rw335
                · rcases Nat.lt_or_ge m 337 with h337 | h337
                  · exact (show m = 336 by omega) ▸ e_rw336
                  · exact (show m = 337 by omega) ▸ e_rw337
end EQ
