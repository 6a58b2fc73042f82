/-! the reference's codes of words -/
section S99zn
/-- the letters of the reference's words, in its order -/
def rwd : List (List Int32) := [[103, 111, 111, 100, 115], [100, 101, 98, 116], [102, 111, 101], [102, 114, 105, 101, 110, 100], [107, 105, 110], [108, 105, 115, 116, 101, 100], [100, 97, 121], [115, 97, 108, 101, 115], [109, 97, 115, 116, 101, 114], [112, 108, 97, 99, 101], [115, 101, 97], [119, 97, 121], [112, 101, 114, 115, 111, 110], [119, 114, 105, 116, 101, 115], [97, 110, 100], [111, 114], [110, 111, 116]]
/-- the class's place of the reference's word k -/
def cw (k : Nat) : Nat := [12, 13, 9, 10, 11, 14, 15, 16, 0, 1, 2, 3, 4, 5, 7, 6, 8].getD k 0
theorem rwd_cw : ∀ k : Fin 17, rwd.getD k.val [] = e_txt.getD (cw k.val) [] := by decide +kernel
def wcd (l : List Int32) : Int64 := l.foldl (fun q c => e_lsh q (e_n 5) ||| (c - e_n 96).toInt64) (Int64.ofNat 0)
theorem wcd_inj : ∀ j k : Fin 17, wcd (rwd.getD j.val []) = wcd (rwd.getD k.val []) → j = k := by decide +kernel
end S99zn
