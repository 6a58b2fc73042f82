section RB
def hd94 : List Nat := [0, 8]
set_option maxRecDepth 20000 in
theorem B94_0 {d : Nat} {I : Nat → Nat → Int32} {z : e_Z} {t b : Nat} (ht : T2 t) : e_L d 94 0 [.ref t, .ref b] [] (mk I z) = (e_rV (e_E d 46 [.ref (t + 1), .ref b] (mk I z)) (fun σ => e_L d 94 8 [.ref t, .ref b] [] σ) (e_H (e_L d 94) 94 5 [.ref t, .ref b])) := by
  rcases ht with rfl | rfl
  all_goals exact e_L_to hd94 4 (by generalize e_L d 94 = K; generalize e_E d = E; rfl)
set_option maxRecDepth 20000 in
theorem B94_8 {d : Nat} {I : Nat → Nat → Int32} {z : e_Z} {t b : Nat} (ht : T2 t) : e_L d 94 8 [.ref t, .ref b] [] (mk I z) = (some (.inl none, mk (e_u (e_u I t 3 (e_n 0)) t 4 (e_n 0)) z)) := by
  rcases ht with rfl | rfl
  all_goals exact e_L_to hd94 7 (by generalize e_L d 94 = K; generalize e_E d = E; rfl)
def hd95 : List Nat := [0, 11, 21, 34, 39, 42, 67, 78, 89]
set_option maxRecDepth 20000 in
theorem B95_0 {d : Nat} {I : Nat → Nat → Int32} {z : e_Z} {t t2 : Nat} (ht : T2 t) (ht2 : T2 t2) : e_L d 95 0 [.ref t, .ref t2, .null] [] (mk I z) = (e_rV (e_E d 47 [.ref (t + 1), .ref (t2 + 1)] (mk I z)) (fun σ => e_L d 95 11 [.ref t, .ref t2, .null] [] σ) (e_H (e_L d 95) 95 8 [.ref t, .ref t2, .null])) := by
  rcases ht with rfl | rfl
  all_goals (rcases ht2 with rfl | rfl)
  all_goals exact e_L_to hd95 5 (by generalize e_L d 95 = K; generalize e_E d = E; rfl)
set_option maxRecDepth 20000 in
theorem B95_11 {d : Nat} {I : Nat → Nat → Int32} {z : e_Z} {t t2 : Nat} (ht : T2 t) (ht2 : T2 t2) : e_L d 95 11 [.ref t, .ref t2, .null] [] (mk I z) = (e_L d 95 21 [.ref t, .ref t2, .int (e_n 0)] [] (mk (e_u I t 3 (I t2 3)) z)) := by
  rcases ht with rfl | rfl
  all_goals (rcases ht2 with rfl | rfl)
  all_goals exact e_L_to hd95 6 (by generalize e_L d 95 = K; generalize e_E d = E; rfl)
set_option maxRecDepth 20000 in
theorem B95_21 {d : Nat} {I : Nat → Nat → Int32} {z : e_Z} {t t2 : Nat} {x2 : Int32} (ht : T2 t) (ht2 : T2 t2) : e_L d 95 21 [.ref t, .ref t2, .int x2] [] (mk I z) = (if e_cc .ge x2 (I t 3) = true then (e_rV (e_E d 171 [.ref (t2 + 7), .ref (t + 7)] (mk (e_u I t 4 (I t2 4)) z)) (fun σ => e_L d 95 67 [.ref t, .ref t2, .int x2] [] σ) (e_H (e_L d 95) 95 64 [.ref t, .ref t2, .int x2])) else (e_rF (e_E d 96 [.ref t, .int x2] (mk I z)) (fun v σ => e_L d 95 34 [.ref t, .ref t2, .int x2] [.ref v] σ) (e_H (e_L d 95) 95 31 [.ref t, .ref t2, .int x2]))) := by
  rcases ht with rfl | rfl
  all_goals (rcases ht2 with rfl | rfl)
  all_goals exact e_L_to hd95 13 (by generalize e_L d 95 = K; generalize e_E d = E; rfl)
set_option maxRecDepth 20000 in
theorem B95_34 {d : Nat} {I : Nat → Nat → Int32} {z : e_Z} {t t2 s0 : Nat} {x2 : Int32} (ht2 : T2 t2) : e_L d 95 34 [.ref t, .ref t2, .int x2] [.ref s0] (mk I z) = (e_rF (e_E d 96 [.ref t2, .int x2] (mk I z)) (fun v σ => e_L d 95 39 [.ref t, .ref t2, .int x2] [.ref v, .ref s0] σ) (e_H (e_L d 95) 95 36 [.ref t, .ref t2, .int x2])) := by
  rcases ht2 with rfl | rfl
  all_goals exact e_L_to hd95 3 (by generalize e_L d 95 = K; generalize e_E d = E; rfl)
set_option maxRecDepth 20000 in
theorem B95_39 {d : Nat} {I : Nat → Nat → Int32} {z : e_Z} {t t2 s0 s1 : Nat} {x2 : Int32}  : e_L d 95 39 [.ref t, .ref t2, .int x2] [.ref s1, .ref s0] (mk I z) = (e_ck (mk I z) 6 s0 (e_rV (e_E d 47 [.ref s0, .ref s1] (mk I z)) (fun σ => e_L d 95 42 [.ref t, .ref t2, .int x2] [] σ) (e_H (e_L d 95) 95 39 [.ref t, .ref t2, .int x2]))) := e_L_to hd95 1 (by generalize e_L d 95 = K; generalize e_E d = E; rfl)
set_option maxRecDepth 20000 in
theorem B95_42 {d : Nat} {I : Nat → Nat → Int32} {z : e_Z} {t t2 : Nat} {x2 : Int32}  : e_L d 95 42 [.ref t, .ref t2, .int x2] [] (mk I z) = (e_L d 95 21 [.ref t, .ref t2, .int (x2 + e_n 1)] [] (mk I z)) := e_L_to hd95 2 (by generalize e_L d 95 = K; generalize e_E d = E; rfl)
set_option maxRecDepth 20000 in
theorem B95_67 {d : Nat} {I : Nat → Nat → Int32} {z : e_Z} {t t2 : Nat} {x2 : Int32} (ht : T2 t) (ht2 : T2 t2) : e_L d 95 67 [.ref t, .ref t2, .int x2] [] (mk I z) = (e_rV (e_E d 171 [.ref (t2 + 8), .ref (t + 8)] (mk I z)) (fun σ => e_L d 95 78 [.ref t, .ref t2, .int x2] [] σ) (e_H (e_L d 95) 95 75 [.ref t, .ref t2, .int x2])) := by
  rcases ht with rfl | rfl
  all_goals (rcases ht2 with rfl | rfl)
  all_goals exact e_L_to hd95 5 (by generalize e_L d 95 = K; generalize e_E d = E; rfl)
set_option maxRecDepth 20000 in
theorem B95_78 {d : Nat} {I : Nat → Nat → Int32} {z : e_Z} {t t2 : Nat} {x2 : Int32} (ht : T2 t) (ht2 : T2 t2) : e_L d 95 78 [.ref t, .ref t2, .int x2] [] (mk I z) = (e_rV (e_E d 171 [.ref (t2 + 9), .ref (t + 9)] (mk I z)) (fun σ => e_L d 95 89 [.ref t, .ref t2, .int x2] [] σ) (e_H (e_L d 95) 95 86 [.ref t, .ref t2, .int x2])) := by
  rcases ht with rfl | rfl
  all_goals (rcases ht2 with rfl | rfl)
  all_goals exact e_L_to hd95 5 (by generalize e_L d 95 = K; generalize e_E d = E; rfl)
set_option maxRecDepth 20000 in
theorem B95_89 {d : Nat} {I : Nat → Nat → Int32} {z : e_Z} {t t2 : Nat} {x2 : Int32}  : e_L d 95 89 [.ref t, .ref t2, .int x2] [] (mk I z) = (some (.inl none, mk I z)) := e_L_to hd95 1 (by generalize e_L d 95 = K; generalize e_E d = E; rfl)
def hd96 : List Nat := [0, 15]
set_option maxRecDepth 20000 in
theorem B96_0 {d : Nat} {I : Nat → Nat → Int32} {z : e_Z} {t : Nat} {x1 : Int32} (ht : T2 t) : e_L d 96 0 [.ref t, .int x1] [] (mk I z) = (e_rI (e_E d 326 [.int ((I t 2) + x1), .int (e_n 40)] (mk I z)) (fun v σ => e_L d 96 15 [.ref t, .int x1] [.int v, .ref (t + 6)] σ) (e_H (e_L d 96) 96 12 [.ref t, .int x1])) := by
  rcases ht with rfl | rfl
  all_goals exact e_L_to hd96 8 (by generalize e_L d 96 = K; generalize e_E d = E; rfl)
set_option maxRecDepth 20000 in
theorem B96_15 {d : Nat} {I : Nat → Nat → Int32} {z : e_Z} {t : Nat} {x1 y1 : Int32} (ht : T2 t) : e_L d 96 15 [.ref t, .int x1] [.int y1, .ref (t + 6)] (mk I z) = (ck y1 40 (some (.inl (some (.ref (fr z.2.1 (t + 6) y1.toNatClampNeg))), mk I z))) := by
  rcases ht with rfl | rfl
  all_goals exact e_L_to hd96 2 (by generalize e_L d 96 = K; generalize e_E d = E; rfl)
def hd97 : List Nat := [0, 21, 34, 42, 49]
set_option maxRecDepth 20000 in
theorem B97_0 {d : Nat} {I : Nat → Nat → Int32} {z : e_Z} {t : Nat} (ht : T2 t) : e_L d 97 0 [.ref t] [] (mk I z) = (if e_cc .ne (I t 3) (e_n 40) = true then (e_L d 97 34 [.ref t] [] (mk I z)) else (e_rI (e_E d 326 [.int ((I t 2) + (e_n 1)), .int (e_n 40)] (mk I z)) (fun v σ => e_L d 97 21 [.ref t] [.int v, .ref t] σ) (e_H (e_L d 97) 97 18 [.ref t]))) := by
  rcases ht with rfl | rfl
  all_goals exact e_L_to hd97 11 (by generalize e_L d 97 = K; generalize e_E d = E; rfl)
set_option maxRecDepth 20000 in
theorem B97_21 {d : Nat} {I : Nat → Nat → Int32} {z : e_Z} {t : Nat} {y1 : Int32} (ht : T2 t) : e_L d 97 21 [.ref t] [.int y1, .ref t] (mk I z) = (e_L d 97 34 [.ref t] [] (mk (e_u (e_u I t 2 y1) t 3 (((e_u I t 2 y1) t 3) - (e_n 1))) z)) := by
  rcases ht with rfl | rfl
  all_goals exact e_L_to hd97 7 (by generalize e_L d 97 = K; generalize e_E d = E; rfl)
set_option maxRecDepth 20000 in
theorem B97_34 {d : Nat} {I : Nat → Nat → Int32} {z : e_Z} {t : Nat} (ht : T2 t) : e_L d 97 34 [.ref t] [] (mk I z) = (e_rF (e_E d 96 [.ref t, .int (I t 3)] (mk I z)) (fun v σ => e_L d 97 42 [.ref t] [.ref v] σ) (e_H (e_L d 97) 97 39 [.ref t])) := by
  rcases ht with rfl | rfl
  all_goals exact e_L_to hd97 4 (by generalize e_L d 97 = K; generalize e_E d = E; rfl)
set_option maxRecDepth 20000 in
theorem B97_42 {d : Nat} {I : Nat → Nat → Int32} {z : e_Z} {t s0 : Nat} (ht : T2 t) : e_L d 97 42 [.ref t] [.ref s0] (mk I z) = (e_ck (mk I z) 6 s0 (e_rV (e_E d 47 [.ref s0, .ref (t + 1)] (mk I z)) (fun σ => e_L d 97 49 [.ref t] [] σ) (e_H (e_L d 97) 97 46 [.ref t]))) := by
  rcases ht with rfl | rfl
  all_goals exact e_L_to hd97 3 (by generalize e_L d 97 = K; generalize e_E d = E; rfl)
set_option maxRecDepth 20000 in
theorem B97_49 {d : Nat} {I : Nat → Nat → Int32} {z : e_Z} {t : Nat} (ht : T2 t) : e_L d 97 49 [.ref t] [] (mk I z) = (some (.inl none, mk (e_u I t 3 ((I t 3) + (e_n 1))) z)) := by
  rcases ht with rfl | rfl
  all_goals exact e_L_to hd97 7 (by generalize e_L d 97 = K; generalize e_E d = E; rfl)
def hd98 : List Nat := [0, 29, 32]
set_option maxRecDepth 20000 in
theorem B98_0 {d : Nat} {I : Nat → Nat → Int32} {z : e_Z} {t : Nat} (ht : T2 t) : e_L d 98 0 [.ref t] [] (mk I z) = (if e_cc .le (I t 3) 0 = true then (e_L d 98 32 [.ref t] [] (mk I z)) else (e_rF (e_E d 96 [.ref t, .int ((e_u I t 3 ((I t 3) - (e_n 1))) t 3)] (mk (e_u I t 3 ((I t 3) - (e_n 1))) z)) (fun v σ => e_L d 98 29 [.ref t] [.ref v, .ref (t + 1)] σ) (e_H (e_L d 98) 98 26 [.ref t]))) := by
  rcases ht with rfl | rfl
  all_goals exact e_L_to hd98 15 (by generalize e_L d 98 = K; generalize e_E d = E; rfl)
set_option maxRecDepth 20000 in
theorem B98_29 {d : Nat} {I : Nat → Nat → Int32} {z : e_Z} {t s1 : Nat} (ht : T2 t) : e_L d 98 29 [.ref t] [.ref s1, .ref (t + 1)] (mk I z) = (e_rV (e_E d 47 [.ref (t + 1), .ref s1] (mk I z)) (fun σ => e_L d 98 32 [.ref t] [] σ) (e_H (e_L d 98) 98 29 [.ref t])) := by
  rcases ht with rfl | rfl
  all_goals exact e_L_to hd98 1 (by generalize e_L d 98 = K; generalize e_E d = E; rfl)
set_option maxRecDepth 20000 in
theorem B98_32 {d : Nat} {I : Nat → Nat → Int32} {z : e_Z} {t : Nat}  : e_L d 98 32 [.ref t] [] (mk I z) = (some (.inl none, mk I z)) := e_L_to hd98 1 (by generalize e_L d 98 = K; generalize e_E d = E; rfl)
def hd99 : List Nat := [0, 12, 24, 41, 44]
set_option maxRecDepth 20000 in
theorem B99_0 {d : Nat} {I : Nat → Nat → Int32} {z : e_Z} {t : Nat} {x1 x2 x3 : Int32} (ht : T2 t) : e_L d 99 0 [.ref t, .int x1, .int x2, .int x3] [] (mk I z) = (e_rV (e_E d 170 [.ref (t + 7), .int (I t 4), .int x1] (mk I z)) (fun σ => e_L d 99 12 [.ref t, .int x1, .int x2, .int x3] [] σ) (e_H (e_L d 99) 99 9 [.ref t, .int x1, .int x2, .int x3])) := by
  rcases ht with rfl | rfl
  all_goals exact e_L_to hd99 6 (by generalize e_L d 99 = K; generalize e_E d = E; rfl)
set_option maxRecDepth 20000 in
theorem B99_12 {d : Nat} {I : Nat → Nat → Int32} {z : e_Z} {t : Nat} {x1 x2 x3 : Int32} (ht : T2 t) : e_L d 99 12 [.ref t, .int x1, .int x2, .int x3] [] (mk I z) = (e_rV (e_E d 170 [.ref (t + 8), .int (I t 4), .int x2] (mk I z)) (fun σ => e_L d 99 24 [.ref t, .int x1, .int x2, .int x3] [] σ) (e_H (e_L d 99) 99 21 [.ref t, .int x1, .int x2, .int x3])) := by
  rcases ht with rfl | rfl
  all_goals exact e_L_to hd99 6 (by generalize e_L d 99 = K; generalize e_E d = E; rfl)
set_option maxRecDepth 20000 in
theorem B99_24 {d : Nat} {I : Nat → Nat → Int32} {z : e_Z} {t : Nat} {x1 x2 x3 : Int32} (ht : T2 t) : e_L d 99 24 [.ref t, .int x1, .int x2, .int x3] [] (mk I z) = (if e_cc .eq x3 0 = true then (e_L d 99 41 [.ref t, .int x1, .int x2, .int x3] [.int (e_n 0), .int (I t 4), .ref (t + 9)] (mk I z)) else (e_L d 99 41 [.ref t, .int x1, .int x2, .int x3] [.int (e_n 1), .int (I t 4), .ref (t + 9)] (mk I z))) := by
  rcases ht with rfl | rfl
  all_goals exact e_L_to hd99 8 (by generalize e_L d 99 = K; generalize e_E d = E; rfl)
set_option maxRecDepth 20000 in
theorem B99_41 {d : Nat} {I : Nat → Nat → Int32} {z : e_Z} {t : Nat} {x1 x2 x3 y1 y2 : Int32}  : e_L d 99 41 [.ref t, .int x1, .int x2, .int x3] [.int y2, .int y1, .ref (t + 9)] (mk I z) = (e_rV (e_E d 170 [.ref (t + 9), .int y1, .int y2] (mk I z)) (fun σ => e_L d 99 44 [.ref t, .int x1, .int x2, .int x3] [] σ) (e_H (e_L d 99) 99 41 [.ref t, .int x1, .int x2, .int x3])) := e_L_to hd99 1 (by generalize e_L d 99 = K; generalize e_E d = E; rfl)
set_option maxRecDepth 20000 in
theorem B99_44 {d : Nat} {I : Nat → Nat → Int32} {z : e_Z} {t : Nat} {x1 x2 x3 : Int32} (ht : T2 t) : e_L d 99 44 [.ref t, .int x1, .int x2, .int x3] [] (mk I z) = (some (.inl none, mk (e_u I t 4 ((I t 4) + (e_n 1))) z)) := by
  rcases ht with rfl | rfl
  all_goals exact e_L_to hd99 7 (by generalize e_L d 99 = K; generalize e_E d = E; rfl)
def hd100 : List Nat := [0, 2, 19, 22, 30, 33, 41, 51]
set_option maxRecDepth 20000 in
theorem B100_0 {d : Nat} {I : Nat → Nat → Int32} {z : e_Z} {t : Nat}  : e_L d 100 0 [.ref t, .ref 470, .null, .null] [] (mk I z) = (e_L d 100 2 [.ref t, .ref 470, .int (e_n 0), .null] [] (mk I z)) := e_L_to hd100 2 (by generalize e_L d 100 = K; generalize e_E d = E; rfl)
set_option maxRecDepth 20000 in
theorem B100_2 {d : Nat} {I : Nat → Nat → Int32} {z : e_Z} {t : Nat} {x2 : Int32} {u3 : Value} (ht : T2 t) : e_L d 100 2 [.ref t, .ref 470, .int x2, u3] [] (mk I z) = (if e_cc .ge x2 (I t 4) = true then (if e_n 1 = 0 ∨ e_n 1 = 1 then some (.inl (some (.int (e_n 1))), mk I z) else none) else (e_rI (e_E d 169 [.ref (t + 8), .int x2] (mk I z)) (fun v σ => e_L d 100 19 [.ref t, .ref 470, .int x2, u3] [.int v, .ref 470] σ) (e_H (e_L d 100) 100 16 [.ref t, .ref 470, .int x2, u3]))) := by
  rcases ht with rfl | rfl
  all_goals exact e_L_to hd100 9 (by generalize e_L d 100 = K; generalize e_E d = E; rfl)
set_option maxRecDepth 20000 in
theorem B100_19 {d : Nat} {I : Nat → Nat → Int32} {z : e_Z} {t : Nat} {x2 y1 : Int32} {u3 : Value}  : e_L d 100 19 [.ref t, .ref 470, .int x2, u3] [.int y1, .ref 470] (mk I z) = (e_rI (e_E d 20 [.ref 470, .int y1] (mk I z)) (fun v σ => e_L d 100 22 [.ref t, .ref 470, .int x2, u3] [.int v] σ) (e_H (e_L d 100) 100 19 [.ref t, .ref 470, .int x2, u3])) := e_L_to hd100 1 (by generalize e_L d 100 = K; generalize e_E d = E; rfl)
set_option maxRecDepth 20000 in
theorem B100_22 {d : Nat} {I : Nat → Nat → Int32} {z : e_Z} {t : Nat} {x2 y0 : Int32} {u3 : Value} (ht : T2 t) : e_L d 100 22 [.ref t, .ref 470, .int x2, u3] [.int y0] (mk I z) = (e_rI (e_E d 169 [.ref (t + 7), .int x2] (mk I z)) (fun v σ => e_L d 100 30 [.ref t, .ref 470, .int x2, u3] [.int v, .int y0] σ) (e_H (e_L d 100) 100 27 [.ref t, .ref 470, .int x2, u3])) := by
  rcases ht with rfl | rfl
  all_goals exact e_L_to hd100 4 (by generalize e_L d 100 = K; generalize e_E d = E; rfl)
set_option maxRecDepth 20000 in
theorem B100_30 {d : Nat} {I : Nat → Nat → Int32} {z : e_Z} {t : Nat} {x2 y0 y1 : Int32} {u3 : Value}  : e_L d 100 30 [.ref t, .ref 470, .int x2, u3] [.int y1, .int y0] (mk I z) = (e_rI (e_E d 174 [.int y0, .int y1] (mk I z)) (fun v σ => e_L d 100 33 [.ref t, .ref 470, .int x2, u3] [.int v] σ) (e_H (e_L d 100) 100 30 [.ref t, .ref 470, .int x2, u3])) := e_L_to hd100 1 (by generalize e_L d 100 = K; generalize e_E d = E; rfl)
set_option maxRecDepth 20000 in
theorem B100_33 {d : Nat} {I : Nat → Nat → Int32} {z : e_Z} {t : Nat} {x2 y0 : Int32} {u3 : Value}  : e_L d 100 33 [.ref t, .ref 470, .int x2, u3] [.int y0] (mk I z) = (if e_cc .eq y0 0 = true then (e_L d 100 41 [.ref t, .ref 470, .int x2, u3] [.int (e_n 0)] (mk I z)) else (e_L d 100 41 [.ref t, .ref 470, .int x2, u3] [.int (e_n 1)] (mk I z))) := e_L_to hd100 3 (by generalize e_L d 100 = K; generalize e_E d = E; rfl)
set_option maxRecDepth 20000 in
theorem B100_41 {d : Nat} {I : Nat → Nat → Int32} {z : e_Z} {t : Nat} {x2 y0 : Int32} {u3 : Value} (ht : T2 t) : e_L d 100 41 [.ref t, .ref 470, .int x2, u3] [.int y0] (mk I z) = (e_rI (e_E d 169 [.ref (t + 9), .int x2] (mk I z)) (fun v σ => e_L d 100 51 [.ref t, .ref 470, .int x2, .int y0] [.int v, .int y0] σ) (e_H (e_L d 100) 100 48 [.ref t, .ref 470, .int x2, .int y0])) := by
  rcases ht with rfl | rfl
  all_goals exact e_L_to hd100 6 (by generalize e_L d 100 = K; generalize e_E d = E; rfl)
set_option maxRecDepth 20000 in
theorem B100_51 {d : Nat} {I : Nat → Nat → Int32} {z : e_Z} {t : Nat} {x2 x3 y0 y1 : Int32}  : e_L d 100 51 [.ref t, .ref 470, .int x2, .int x3] [.int y1, .int y0] (mk I z) = (if e_cc .eq y0 y1 = true then (e_L d 100 2 [.ref t, .ref 470, .int (x2 + e_n 1), .int x3] [] (mk I z)) else (if e_n 0 = 0 ∨ e_n 0 = 1 then some (.inl (some (.int (e_n 0))), mk I z) else none)) := e_L_to hd100 3 (by generalize e_L d 100 = K; generalize e_E d = E; rfl)
def hd102 : List Nat := [0, 5, 25, 49, 52, 66, 73, 83, 92]
set_option maxRecDepth 20000 in
theorem B102_0 {d : Nat} {I : Nat → Nat → Int32} {z : e_Z} {x2 : Int32}  : e_L d 102 0 [.ref 45, .ref 2, .int x2, .null, .null] [] (mk I z) = (e_L d 102 5 [.ref 45, .ref 2, .int x2, .null, .null] [] (ms I z.1 (e_u (fr z.2.1) 45 0 2) z.2.2.1 z.2.2.2)) := e_L_to hd102 3 (by generalize e_L d 102 = K; generalize e_E d = E; rfl)
set_option maxRecDepth 20000 in
theorem B102_5 {d : Nat} {I : Nat → Nat → Int32} {z : e_Z} {x2 : Int32}  : e_L d 102 5 [.ref 45, .ref 2, .int x2, .null, .null] [] (mk I z) = (e_L d 102 25 [.ref 45, .ref 2, .int x2, .int (e_n 0), .int (e_n 0)] [] (mk (e_u (e_u I 45 1 (e_min x2 (Int32.ofNat 700))) 45 2 (e_n 0)) z)) := e_L_to hd102 13 (by generalize e_L d 102 = K; generalize e_E d = E; rfl)
set_option maxRecDepth 20000 in
theorem B102_25 {d : Nat} {I : Nat → Nat → Int32} {z : e_Z} {x2 x3 x4 : Int32}  : e_L d 102 25 [.ref 45, .ref 2, .int x2, .int x3, .int x4] [] (mk I z) = (if e_cc .ge x4 (e_n 701) = true then (e_L d 102 73 [.ref 45, .ref 2, .int x2, .int x3, .int x4] [] (mk I z)) else (if e_cc .ge x3 (I 45 1) = true then (e_L d 102 73 [.ref 45, .ref 2, .int x2, .int x3, .int x4] [] (mk I z)) else (e_rI (e_E d 169 [.ref (txa z), .int x3] (mk I z)) (fun v σ => e_L d 102 49 [.ref 45, .ref 2, .int x2, .int x3, .int x4] [.int v] σ) (e_H (e_L d 102) 102 46 [.ref 45, .ref 2, .int x2, .int x3, .int x4])))) := e_L_to hd102 11 (by generalize e_L d 102 = K; generalize e_E d = E; rfl)
set_option maxRecDepth 20000 in
theorem B102_49 {d : Nat} {I : Nat → Nat → Int32} {z : e_Z} {x2 x3 x4 y0 : Int32}  : e_L d 102 49 [.ref 45, .ref 2, .int x2, .int x3, .int x4] [.int y0] (mk I z) = (e_rI (e_E d 108 [.int y0] (mk I z)) (fun v σ => e_L d 102 52 [.ref 45, .ref 2, .int x2, .int x3, .int x4] [.int v] σ) (e_H (e_L d 102) 102 49 [.ref 45, .ref 2, .int x2, .int x3, .int x4])) := e_L_to hd102 1 (by generalize e_L d 102 = K; generalize e_E d = E; rfl)
set_option maxRecDepth 20000 in
theorem B102_52 {d : Nat} {I : Nat → Nat → Int32} {z : e_Z} {x2 x3 x4 y0 : Int32}  : e_L d 102 52 [.ref 45, .ref 2, .int x2, .int x3, .int x4] [.int y0] (mk I z) = (if e_cc .eq y0 0 = true then (e_rI (e_E d 104 [.ref 45, .int x3] (mk I z)) (fun v σ => e_L d 102 66 [.ref 45, .ref 2, .int x2, .int x3, .int x4] [.int v] σ) (e_H (e_L d 102) 102 63 [.ref 45, .ref 2, .int x2, .int x3, .int x4])) else (e_L d 102 66 [.ref 45, .ref 2, .int x2, .int x3, .int x4] [.int (x3 + (e_n 1))] (mk I z))) := e_L_to hd102 5 (by generalize e_L d 102 = K; generalize e_E d = E; rfl)
set_option maxRecDepth 20000 in
theorem B102_66 {d : Nat} {I : Nat → Nat → Int32} {z : e_Z} {x2 x3 x4 y0 : Int32}  : e_L d 102 66 [.ref 45, .ref 2, .int x2, .int x3, .int x4] [.int y0] (mk I z) = (e_L d 102 25 [.ref 45, .ref 2, .int x2, .int y0, .int (x4 + e_n 1)] [] (mk I z)) := e_L_to hd102 3 (by generalize e_L d 102 = K; generalize e_E d = E; rfl)
set_option maxRecDepth 20000 in
theorem B102_73 {d : Nat} {I : Nat → Nat → Int32} {z : e_Z} {x2 x3 x4 : Int32}  : e_L d 102 73 [.ref 45, .ref 2, .int x2, .int x3, .int x4] [] (mk I z) = (e_rV (e_E d 103 [.ref 45, .int (e_n 0), .int (I 45 1), .int (e_n 0)] (mk I z)) (fun σ => e_L d 102 83 [.ref 45, .ref 2, .int x2, .int x3, .int x4] [] σ) (e_H (e_L d 102) 102 80 [.ref 45, .ref 2, .int x2, .int x3, .int x4])) := e_L_to hd102 6 (by generalize e_L d 102 = K; generalize e_E d = E; rfl)
set_option maxRecDepth 20000 in
theorem B102_83 {d : Nat} {I : Nat → Nat → Int32} {z : e_Z} {x2 x3 x4 : Int32}  : e_L d 102 83 [.ref 45, .ref 2, .int x2, .int x3, .int x4] [] (mk I z) = (e_rV (e_E d 112 [.ref 45] (mk (e_u I 45 6 (e_n (-1))) z)) (fun σ => e_L d 102 92 [.ref 45, .ref 2, .int x2, .int x3, .int x4] [] σ) (e_H (e_L d 102) 102 89 [.ref 45, .ref 2, .int x2, .int x3, .int x4])) := e_L_to hd102 5 (by generalize e_L d 102 = K; generalize e_E d = E; rfl)
set_option maxRecDepth 20000 in
theorem B102_92 {d : Nat} {I : Nat → Nat → Int32} {z : e_Z} {x2 x3 x4 : Int32}  : e_L d 102 92 [.ref 45, .ref 2, .int x2, .int x3, .int x4] [] (mk I z) = (some (.inl none, mk I z)) := e_L_to hd102 1 (by generalize e_L d 102 = K; generalize e_E d = E; rfl)
def hd103 : List Nat := [0, 12, 24, 36]
set_option maxRecDepth 20000 in
theorem B103_0 {d : Nat} {I : Nat → Nat → Int32} {z : e_Z} {x1 x2 x3 : Int32}  : e_L d 103 0 [.ref 45, .int x1, .int x2, .int x3] [] (mk I z) = (e_rV (e_E d 170 [.ref 47, .int (I 45 2), .int x1] (mk I z)) (fun σ => e_L d 103 12 [.ref 45, .int x1, .int x2, .int x3] [] σ) (e_H (e_L d 103) 103 9 [.ref 45, .int x1, .int x2, .int x3])) := e_L_to hd103 6 (by generalize e_L d 103 = K; generalize e_E d = E; rfl)
set_option maxRecDepth 20000 in
theorem B103_12 {d : Nat} {I : Nat → Nat → Int32} {z : e_Z} {x1 x2 x3 : Int32}  : e_L d 103 12 [.ref 45, .int x1, .int x2, .int x3] [] (mk I z) = (e_rV (e_E d 170 [.ref 48, .int (I 45 2), .int x2] (mk I z)) (fun σ => e_L d 103 24 [.ref 45, .int x1, .int x2, .int x3] [] σ) (e_H (e_L d 103) 103 21 [.ref 45, .int x1, .int x2, .int x3])) := e_L_to hd103 6 (by generalize e_L d 103 = K; generalize e_E d = E; rfl)
set_option maxRecDepth 20000 in
theorem B103_24 {d : Nat} {I : Nat → Nat → Int32} {z : e_Z} {x1 x2 x3 : Int32}  : e_L d 103 24 [.ref 45, .int x1, .int x2, .int x3] [] (mk I z) = (e_rV (e_E d 170 [.ref 49, .int (I 45 2), .int x3] (mk I z)) (fun σ => e_L d 103 36 [.ref 45, .int x1, .int x2, .int x3] [] σ) (e_H (e_L d 103) 103 33 [.ref 45, .int x1, .int x2, .int x3])) := e_L_to hd103 6 (by generalize e_L d 103 = K; generalize e_E d = E; rfl)
set_option maxRecDepth 20000 in
theorem B103_36 {d : Nat} {I : Nat → Nat → Int32} {z : e_Z} {x1 x2 x3 : Int32}  : e_L d 103 36 [.ref 45, .int x1, .int x2, .int x3] [] (mk I z) = (some (.inl none, mk (e_u I 45 2 ((I 45 2) + (e_n 1))) z)) := e_L_to hd103 7 (by generalize e_L d 103 = K; generalize e_E d = E; rfl)
def hd104 : List Nat := [0, 8, 13, 21, 26, 34, 40, 48, 53]
set_option maxRecDepth 20000 in
theorem B104_0 {d : Nat} {I : Nat → Nat → Int32} {z : e_Z} {x1 : Int32}  : e_L d 104 0 [.ref 45, .int x1, .null] [] (mk I z) = (e_rI (e_E d 169 [.ref (txa z), .int x1] (mk I z)) (fun v σ => e_L d 104 8 [.ref 45, .int x1, .null] [.int v] σ) (e_H (e_L d 104) 104 5 [.ref 45, .int x1, .null])) := e_L_to hd104 4 (by generalize e_L d 104 = K; generalize e_E d = E; rfl)
set_option maxRecDepth 20000 in
theorem B104_8 {d : Nat} {I : Nat → Nat → Int32} {z : e_Z} {x1 y0 : Int32}  : e_L d 104 8 [.ref 45, .int x1, .null] [.int y0] (mk I z) = (e_rI (e_E d 109 [.int y0] (mk I z)) (fun v σ => e_L d 104 13 [.ref 45, .int x1, .int y0] [.int v] σ) (e_H (e_L d 104) 104 10 [.ref 45, .int x1, .int y0])) := e_L_to hd104 3 (by generalize e_L d 104 = K; generalize e_E d = E; rfl)
set_option maxRecDepth 20000 in
theorem B104_13 {d : Nat} {I : Nat → Nat → Int32} {z : e_Z} {x1 x2 y0 : Int32}  : e_L d 104 13 [.ref 45, .int x1, .int x2] [.int y0] (mk I z) = (if e_cc .eq y0 0 = true then (e_rI (e_E d 110 [.int x2] (mk I z)) (fun v σ => e_L d 104 26 [.ref 45, .int x1, .int x2] [.int v] σ) (e_H (e_L d 104) 104 23 [.ref 45, .int x1, .int x2])) else (e_rI (e_E d 105 [.ref 45, .int x1] (mk I z)) (fun v σ => e_L d 104 21 [.ref 45, .int x1, .int x2] [.int v] σ) (e_H (e_L d 104) 104 18 [.ref 45, .int x1, .int x2]))) := e_L_to hd104 4 (by generalize e_L d 104 = K; generalize e_E d = E; rfl)
set_option maxRecDepth 20000 in
theorem B104_21 {d : Nat} {I : Nat → Nat → Int32} {z : e_Z} {x1 x2 y0 : Int32}  : e_L d 104 21 [.ref 45, .int x1, .int x2] [.int y0] (mk I z) = (some (.inl (some (.int y0)), mk I z)) := e_L_to hd104 1 (by generalize e_L d 104 = K; generalize e_E d = E; rfl)
set_option maxRecDepth 20000 in
theorem B104_26 {d : Nat} {I : Nat → Nat → Int32} {z : e_Z} {x1 x2 y0 : Int32}  : e_L d 104 26 [.ref 45, .int x1, .int x2] [.int y0] (mk I z) = (if e_cc .eq y0 0 = true then (e_rI (e_E d 111 [.int x2] (mk I z)) (fun v σ => e_L d 104 40 [.ref 45, .int x1, .int x2] [.int v, .ref 45] σ) (e_H (e_L d 104) 104 37 [.ref 45, .int x1, .int x2])) else (e_rI (e_E d 107 [.ref 45, .int x1] (mk I z)) (fun v σ => e_L d 104 34 [.ref 45, .int x1, .int x2] [.int v] σ) (e_H (e_L d 104) 104 31 [.ref 45, .int x1, .int x2]))) := e_L_to hd104 4 (by generalize e_L d 104 = K; generalize e_E d = E; rfl)
set_option maxRecDepth 20000 in
theorem B104_34 {d : Nat} {I : Nat → Nat → Int32} {z : e_Z} {x1 x2 y0 : Int32}  : e_L d 104 34 [.ref 45, .int x1, .int x2] [.int y0] (mk I z) = (some (.inl (some (.int y0)), mk I z)) := e_L_to hd104 1 (by generalize e_L d 104 = K; generalize e_E d = E; rfl)
set_option maxRecDepth 20000 in
theorem B104_40 {d : Nat} {I : Nat → Nat → Int32} {z : e_Z} {x1 x2 y1 : Int32}  : e_L d 104 40 [.ref 45, .int x1, .int x2] [.int y1, .ref 45] (mk I z) = (if e_cc .eq y1 0 = true then (e_L d 104 48 [.ref 45, .int x1, .int x2] [.int (e_n 1), .ref 45] (mk I z)) else (e_L d 104 48 [.ref 45, .int x1, .int x2] [.int (e_n 4), .ref 45] (mk I z))) := e_L_to hd104 3 (by generalize e_L d 104 = K; generalize e_E d = E; rfl)
set_option maxRecDepth 20000 in
theorem B104_48 {d : Nat} {I : Nat → Nat → Int32} {z : e_Z} {x1 x2 y1 : Int32}  : e_L d 104 48 [.ref 45, .int x1, .int x2] [.int y1, .ref 45] (mk I z) = (e_rV (e_E d 103 [.ref 45, .int y1, .int x1, .int x2] (mk I z)) (fun σ => e_L d 104 53 [.ref 45, .int x1, .int x2] [] σ) (e_H (e_L d 104) 104 50 [.ref 45, .int x1, .int x2])) := e_L_to hd104 3 (by generalize e_L d 104 = K; generalize e_E d = E; rfl)
set_option maxRecDepth 20000 in
theorem B104_53 {d : Nat} {I : Nat → Nat → Int32} {z : e_Z} {x1 x2 : Int32}  : e_L d 104 53 [.ref 45, .int x1, .int x2] [] (mk I z) = (some (.inl (some (.int (x1 + (e_n 1)))), mk I z)) := e_L_to hd104 4 (by generalize e_L d 104 = K; generalize e_E d = E; rfl)
def hd105 : List Nat := [0, 4, 20, 23, 36, 41, 65, 71, 84]
set_option maxRecDepth 20000 in
theorem B105_0 {d : Nat} {I : Nat → Nat → Int32} {z : e_Z} {x1 : Int32}  : e_L d 105 0 [.ref 45, .int x1, .null, .null, .null] [] (mk I z) = (e_L d 105 4 [.ref 45, .int x1, .int x1, .int x1, .null] [] (mk I z)) := e_L_to hd105 4 (by generalize e_L d 105 = K; generalize e_E d = E; rfl)
set_option maxRecDepth 20000 in
theorem B105_4 {d : Nat} {I : Nat → Nat → Int32} {z : e_Z} {x1 x2 x3 : Int32}  : e_L d 105 4 [.ref 45, .int x1, .int x2, .int x3, .null] [] (mk I z) = (if e_cc .ge x3 (I 45 1) = true then (e_L d 105 36 [.ref 45, .int x1, .int x2, .int x3, .null] [] (mk I z)) else (e_rI (e_E d 169 [.ref (txa z), .int x3] (mk I z)) (fun v σ => e_L d 105 20 [.ref 45, .int x1, .int x2, .int x3, .null] [.int v] σ) (e_H (e_L d 105) 105 17 [.ref 45, .int x1, .int x2, .int x3, .null]))) := e_L_to hd105 8 (by generalize e_L d 105 = K; generalize e_E d = E; rfl)
set_option maxRecDepth 20000 in
theorem B105_20 {d : Nat} {I : Nat → Nat → Int32} {z : e_Z} {x1 x2 x3 y0 : Int32}  : e_L d 105 20 [.ref 45, .int x1, .int x2, .int x3, .null] [.int y0] (mk I z) = (e_rI (e_E d 109 [.int y0] (mk I z)) (fun v σ => e_L d 105 23 [.ref 45, .int x1, .int x2, .int x3, .null] [.int v] σ) (e_H (e_L d 105) 105 20 [.ref 45, .int x1, .int x2, .int x3, .null])) := e_L_to hd105 1 (by generalize e_L d 105 = K; generalize e_E d = E; rfl)
set_option maxRecDepth 20000 in
theorem B105_23 {d : Nat} {I : Nat → Nat → Int32} {z : e_Z} {x1 x2 x3 y0 : Int32}  : e_L d 105 23 [.ref 45, .int x1, .int x2, .int x3, .null] [.int y0] (mk I z) = (if e_cc .eq y0 0 = true then (e_L d 105 36 [.ref 45, .int x1, .int x2, .int x3, .null] [] (mk I z)) else (e_L d 105 4 [.ref 45, .int x1, .int (x3 + (e_n 1)), .int (x3 + e_n 1), .null] [] (mk I z))) := e_L_to hd105 7 (by generalize e_L d 105 = K; generalize e_E d = E; rfl)
set_option maxRecDepth 20000 in
theorem B105_36 {d : Nat} {I : Nat → Nat → Int32} {z : e_Z} {x1 x2 x3 : Int32}  : e_L d 105 36 [.ref 45, .int x1, .int x2, .int x3, .null] [] (mk I z) = (e_L d 105 41 [.ref 45, .int x1, .int x2, .int (e_n (-1)), .int (e_n 0)] [] (mk I z)) := e_L_to hd105 4 (by generalize e_L d 105 = K; generalize e_E d = E; rfl)
set_option maxRecDepth 20000 in
theorem B105_41 {d : Nat} {I : Nat → Nat → Int32} {z : e_Z} {x1 x2 x3 x4 : Int32}  : e_L d 105 41 [.ref 45, .int x1, .int x2, .int x3, .int x4] [] (mk I z) = (if e_cc .ge x4 (Int32.ofNat 17) = true then (e_rV (e_E d 103 [.ref 45, .int (e_n 2), .int x1, .int x3] (mk I z)) (fun σ => e_L d 105 84 [.ref 45, .int x1, .int x2, .int x3, .int x4] [] σ) (e_H (e_L d 105) 105 81 [.ref 45, .int x1, .int x2, .int x3, .int x4])) else (ck x4 17 (e_gsF 40 0 (1000100 + x4.toNatClampNeg) (fun v => (e_rI (e_E d 106 [.ref 45, .ref v, .int x1, .int x2] (mk I z)) (fun v σ => e_L d 105 65 [.ref 45, .int x1, .int x2, .int x3, .int x4] [.int v] σ) (e_H (e_L d 105) 105 62 [.ref 45, .int x1, .int x2, .int x3, .int x4])))))) := e_L_to hd105 12 (by generalize e_L d 105 = K; generalize e_E d = E; rfl)
set_option maxRecDepth 20000 in
theorem B105_65 {d : Nat} {I : Nat → Nat → Int32} {z : e_Z} {x1 x2 x3 x4 y0 : Int32}  : e_L d 105 65 [.ref 45, .int x1, .int x2, .int x3, .int x4] [.int y0] (mk I z) = (if e_cc .eq y0 0 = true then (e_L d 105 71 [.ref 45, .int x1, .int x2, .int x3, .int x4] [] (mk I z)) else (e_L d 105 71 [.ref 45, .int x1, .int x2, .int x4, .int x4] [] (mk I z))) := e_L_to hd105 3 (by generalize e_L d 105 = K; generalize e_E d = E; rfl)
set_option maxRecDepth 20000 in
theorem B105_71 {d : Nat} {I : Nat → Nat → Int32} {z : e_Z} {x1 x2 x3 x4 : Int32}  : e_L d 105 71 [.ref 45, .int x1, .int x2, .int x3, .int x4] [] (mk I z) = (e_L d 105 41 [.ref 45, .int x1, .int x2, .int x3, .int (x4 + e_n 1)] [] (mk I z)) := e_L_to hd105 2 (by generalize e_L d 105 = K; generalize e_E d = E; rfl)
set_option maxRecDepth 20000 in
theorem B105_84 {d : Nat} {I : Nat → Nat → Int32} {z : e_Z} {x1 x2 x3 x4 : Int32}  : e_L d 105 84 [.ref 45, .int x1, .int x2, .int x3, .int x4] [] (mk I z) = (some (.inl (some (.int x2)), mk I z)) := e_L_to hd105 2 (by generalize e_L d 105 = K; generalize e_E d = E; rfl)
def hd106 : List Nat := [0, 4, 15, 21, 30, 41]
set_option maxRecDepth 20000 in
theorem B106_0 {d : Nat} {I : Nat → Nat → Int32} {z : e_Z} {w : Nat} {x2 x3 : Int32}  : e_L d 106 0 [.ref 45, .ref w, .int x2, .int x3, .null] [] (mk I z) = (e_ck (mk I z) 41 w (e_rI (e_E d 330 [.ref w] (mk I z)) (fun v σ => e_L d 106 4 [.ref 45, .ref w, .int x2, .int x3, .null] [.int v] σ) (e_H (e_L d 106) 106 1 [.ref 45, .ref w, .int x2, .int x3, .null]))) := e_L_to hd106 2 (by generalize e_L d 106 = K; generalize e_E d = E; rfl)
set_option maxRecDepth 20000 in
theorem B106_4 {d : Nat} {I : Nat → Nat → Int32} {z : e_Z} {w : Nat} {x2 x3 y0 : Int32}  : e_L d 106 4 [.ref 45, .ref w, .int x2, .int x3, .null] [.int y0] (mk I z) = (if e_cc .eq y0 (x3 - x2) = true then (e_L d 106 15 [.ref 45, .ref w, .int x2, .int x3, .int (e_n 0)] [] (mk I z)) else (if e_n 0 = 0 ∨ e_n 0 = 1 then some (.inl (some (.int (e_n 0))), mk I z) else none)) := e_L_to hd106 6 (by generalize e_L d 106 = K; generalize e_E d = E; rfl)
set_option maxRecDepth 20000 in
theorem B106_15 {d : Nat} {I : Nat → Nat → Int32} {z : e_Z} {w : Nat} {x2 x3 x4 : Int32}  : e_L d 106 15 [.ref 45, .ref w, .int x2, .int x3, .int x4] [] (mk I z) = (e_ck (mk I z) 41 w (e_rI (e_E d 330 [.ref w] (mk I z)) (fun v σ => e_L d 106 21 [.ref 45, .ref w, .int x2, .int x3, .int x4] [.int v, .int x4] σ) (e_H (e_L d 106) 106 18 [.ref 45, .ref w, .int x2, .int x3, .int x4]))) := e_L_to hd106 3 (by generalize e_L d 106 = K; generalize e_E d = E; rfl)
set_option maxRecDepth 20000 in
theorem B106_21 {d : Nat} {I : Nat → Nat → Int32} {z : e_Z} {w : Nat} {x2 x3 x4 y0 y1 : Int32}  : e_L d 106 21 [.ref 45, .ref w, .int x2, .int x3, .int x4] [.int y1, .int y0] (mk I z) = (if e_cc .ge y0 y1 = true then (if e_n 1 = 0 ∨ e_n 1 = 1 then some (.inl (some (.int (e_n 1))), mk I z) else none) else (e_ck (mk I z) 41 w (e_rI (e_E d 331 [.ref w, .int x4] (mk I z)) (fun v σ => e_L d 106 30 [.ref 45, .ref w, .int x2, .int x3, .int x4] [.int v] σ) (e_H (e_L d 106) 106 27 [.ref 45, .ref w, .int x2, .int x3, .int x4])))) := e_L_to hd106 4 (by generalize e_L d 106 = K; generalize e_E d = E; rfl)
set_option maxRecDepth 20000 in
theorem B106_30 {d : Nat} {I : Nat → Nat → Int32} {z : e_Z} {w : Nat} {x2 x3 x4 y0 : Int32}  : e_L d 106 30 [.ref 45, .ref w, .int x2, .int x3, .int x4] [.int y0] (mk I z) = (e_rI (e_E d 169 [.ref (txa z), .int (x2 + x4)] (mk I z)) (fun v σ => e_L d 106 41 [.ref 45, .ref w, .int x2, .int x3, .int x4] [.int v, .int y0] σ) (e_H (e_L d 106) 106 38 [.ref 45, .ref w, .int x2, .int x3, .int x4])) := e_L_to hd106 6 (by generalize e_L d 106 = K; generalize e_E d = E; rfl)
set_option maxRecDepth 20000 in
theorem B106_41 {d : Nat} {I : Nat → Nat → Int32} {z : e_Z} {w : Nat} {x2 x3 x4 y0 y1 : Int32}  : e_L d 106 41 [.ref 45, .ref w, .int x2, .int x3, .int x4] [.int y1, .int y0] (mk I z) = (if e_cc .eq y0 y1 = true then (e_L d 106 15 [.ref 45, .ref w, .int x2, .int x3, .int (x4 + e_n 1)] [] (mk I z)) else (if e_n 0 = 0 ∨ e_n 0 = 1 then some (.inl (some (.int (e_n 0))), mk I z) else none)) := e_L_to hd106 3 (by generalize e_L d 106 = K; generalize e_E d = E; rfl)
def hd107 : List Nat := [0, 7, 25, 28, 52, 60, 72, 79]
set_option maxRecDepth 20000 in
theorem B107_0 {d : Nat} {I : Nat → Nat → Int32} {z : e_Z} {x1 : Int32}  : e_L d 107 0 [.ref 45, .int x1, .null, .null, .null] [] (mk I z) = (e_L d 107 7 [.ref 45, .int x1, .int x1, .int (e_n 0), .int x1] [] (mk I z)) := e_L_to hd107 6 (by generalize e_L d 107 = K; generalize e_E d = E; rfl)
set_option maxRecDepth 20000 in
theorem B107_7 {d : Nat} {I : Nat → Nat → Int32} {z : e_Z} {x1 x2 x3 x4 : Int32}  : e_L d 107 7 [.ref 45, .int x1, .int x2, .int x3, .int x4] [] (mk I z) = (if e_cc .ge x4 (I 45 1) = true then (e_L d 107 72 [.ref 45, .int x1, .int x2, .int x3, .int x4] [] (mk I z)) else (e_rI (e_E d 169 [.ref (txa z), .int x4] (mk I z)) (fun v σ => e_L d 107 25 [.ref 45, .int x1, .int x2, .int x3, .int x4] [.int v] σ) (e_H (e_L d 107) 107 22 [.ref 45, .int x1, .int x2, .int x3, .int x4]))) := e_L_to hd107 8 (by generalize e_L d 107 = K; generalize e_E d = E; rfl)
set_option maxRecDepth 20000 in
theorem B107_25 {d : Nat} {I : Nat → Nat → Int32} {z : e_Z} {x1 x2 x3 x4 y0 : Int32}  : e_L d 107 25 [.ref 45, .int x1, .int x2, .int x3, .int x4] [.int y0] (mk I z) = (e_rI (e_E d 110 [.int y0] (mk I z)) (fun v σ => e_L d 107 28 [.ref 45, .int x1, .int x2, .int x3, .int x4] [.int v] σ) (e_H (e_L d 107) 107 25 [.ref 45, .int x1, .int x2, .int x3, .int x4])) := e_L_to hd107 1 (by generalize e_L d 107 = K; generalize e_E d = E; rfl)
set_option maxRecDepth 20000 in
theorem B107_28 {d : Nat} {I : Nat → Nat → Int32} {z : e_Z} {x1 x2 x3 x4 y0 : Int32}  : e_L d 107 28 [.ref 45, .int x1, .int x2, .int x3, .int x4] [.int y0] (mk I z) = (if e_cc .eq y0 0 = true then (e_L d 107 72 [.ref 45, .int x1, .int x2, .int x3, .int x4] [] (mk I z)) else (if e_cc .ge (x4 - x1) (e_n 4) = true then (e_L d 107 60 [.ref 45, .int x1, .int x2, .int x3, .int x4] [.int (e_n (-1))] (mk I z)) else (e_rI (e_E d 169 [.ref (txa z), .int x4] (mk I z)) (fun v σ => e_L d 107 52 [.ref 45, .int x1, .int x2, .int x3, .int x4] [.int v, .int (x3 * (e_n 10))] σ) (e_H (e_L d 107) 107 49 [.ref 45, .int x1, .int x2, .int x3, .int x4])))) := e_L_to hd107 13 (by generalize e_L d 107 = K; generalize e_E d = E; rfl)
set_option maxRecDepth 20000 in
theorem B107_52 {d : Nat} {I : Nat → Nat → Int32} {z : e_Z} {x1 x2 x3 x4 y0 y1 : Int32}  : e_L d 107 52 [.ref 45, .int x1, .int x2, .int x3, .int x4] [.int y1, .int y0] (mk I z) = (e_L d 107 60 [.ref 45, .int x1, .int x2, .int x3, .int x4] [.int ((y0 + y1) - (e_n 48))] (mk I z)) := e_L_to hd107 4 (by generalize e_L d 107 = K; generalize e_E d = E; rfl)
set_option maxRecDepth 20000 in
theorem B107_60 {d : Nat} {I : Nat → Nat → Int32} {z : e_Z} {x1 x2 x3 x4 y0 : Int32}  : e_L d 107 60 [.ref 45, .int x1, .int x2, .int x3, .int x4] [.int y0] (mk I z) = (e_L d 107 7 [.ref 45, .int x1, .int (x4 + (e_n 1)), .int y0, .int (x4 + e_n 1)] [] (mk I z)) := e_L_to hd107 7 (by generalize e_L d 107 = K; generalize e_E d = E; rfl)
set_option maxRecDepth 20000 in
theorem B107_72 {d : Nat} {I : Nat → Nat → Int32} {z : e_Z} {x1 x2 x3 x4 : Int32}  : e_L d 107 72 [.ref 45, .int x1, .int x2, .int x3, .int x4] [] (mk I z) = (e_rV (e_E d 103 [.ref 45, .int (e_n 3), .int x1, .int x3] (mk I z)) (fun σ => e_L d 107 79 [.ref 45, .int x1, .int x2, .int x3, .int x4] [] σ) (e_H (e_L d 107) 107 76 [.ref 45, .int x1, .int x2, .int x3, .int x4])) := e_L_to hd107 5 (by generalize e_L d 107 = K; generalize e_E d = E; rfl)
set_option maxRecDepth 20000 in
theorem B107_79 {d : Nat} {I : Nat → Nat → Int32} {z : e_Z} {x1 x2 x3 x4 : Int32}  : e_L d 107 79 [.ref 45, .int x1, .int x2, .int x3, .int x4] [] (mk I z) = (some (.inl (some (.int x2)), mk I z)) := e_L_to hd107 2 (by generalize e_L d 107 = K; generalize e_E d = E; rfl)
def hd108 : List Nat := [0, 12, 17]
set_option maxRecDepth 20000 in
theorem B108_0 {d : Nat} {I : Nat → Nat → Int32} {z : e_Z} {x0 : Int32}  : e_L d 108 0 [.int x0] [] (mk I z) = (if e_cc .eq x0 (e_n 32) = true then (e_L d 108 12 [.int x0] [] (mk I z)) else (if e_cc .ne x0 (e_n 10) = true then (e_L d 108 17 [.int x0] [.int (e_n 0)] (mk I z)) else (e_L d 108 12 [.int x0] [] (mk I z)))) := e_L_to hd108 7 (by generalize e_L d 108 = K; generalize e_E d = E; rfl)
set_option maxRecDepth 20000 in
theorem B108_12 {d : Nat} {I : Nat → Nat → Int32} {z : e_Z} {x0 : Int32}  : e_L d 108 12 [.int x0] [] (mk I z) = (e_L d 108 17 [.int x0] [.int (e_n 1)] (mk I z)) := e_L_to hd108 2 (by generalize e_L d 108 = K; generalize e_E d = E; rfl)
set_option maxRecDepth 20000 in
theorem B108_17 {d : Nat} {I : Nat → Nat → Int32} {z : e_Z} {x0 y0 : Int32}  : e_L d 108 17 [.int x0] [.int y0] (mk I z) = (if y0 = 0 ∨ y0 = 1 then some (.inl (some (.int y0)), mk I z) else none) := e_L_to hd108 1 (by generalize e_L d 108 = K; generalize e_E d = E; rfl)
def hd109 : List Nat := [0, 16, 17]
set_option maxRecDepth 20000 in
theorem B109_0 {d : Nat} {I : Nat → Nat → Int32} {z : e_Z} {x0 : Int32}  : e_L d 109 0 [.int x0] [] (mk I z) = (if e_cc .lt x0 (e_n 97) = true then (e_L d 109 16 [.int x0] [] (mk I z)) else (if e_cc .gt x0 (e_n 122) = true then (e_L d 109 16 [.int x0] [] (mk I z)) else (e_L d 109 17 [.int x0] [.int (e_n 1)] (mk I z)))) := e_L_to hd109 8 (by generalize e_L d 109 = K; generalize e_E d = E; rfl)
set_option maxRecDepth 20000 in
theorem B109_16 {d : Nat} {I : Nat → Nat → Int32} {z : e_Z} {x0 : Int32}  : e_L d 109 16 [.int x0] [] (mk I z) = (e_L d 109 17 [.int x0] [.int (e_n 0)] (mk I z)) := e_L_to hd109 1 (by generalize e_L d 109 = K; generalize e_E d = E; rfl)
set_option maxRecDepth 20000 in
theorem B109_17 {d : Nat} {I : Nat → Nat → Int32} {z : e_Z} {x0 y0 : Int32}  : e_L d 109 17 [.int x0] [.int y0] (mk I z) = (if y0 = 0 ∨ y0 = 1 then some (.inl (some (.int y0)), mk I z) else none) := e_L_to hd109 1 (by generalize e_L d 109 = K; generalize e_E d = E; rfl)
def hd110 : List Nat := [0, 16, 17]
set_option maxRecDepth 20000 in
theorem B110_0 {d : Nat} {I : Nat → Nat → Int32} {z : e_Z} {x0 : Int32}  : e_L d 110 0 [.int x0] [] (mk I z) = (if e_cc .lt x0 (e_n 48) = true then (e_L d 110 16 [.int x0] [] (mk I z)) else (if e_cc .gt x0 (e_n 57) = true then (e_L d 110 16 [.int x0] [] (mk I z)) else (e_L d 110 17 [.int x0] [.int (e_n 1)] (mk I z)))) := e_L_to hd110 8 (by generalize e_L d 110 = K; generalize e_E d = E; rfl)
set_option maxRecDepth 20000 in
theorem B110_16 {d : Nat} {I : Nat → Nat → Int32} {z : e_Z} {x0 : Int32}  : e_L d 110 16 [.int x0] [] (mk I z) = (e_L d 110 17 [.int x0] [.int (e_n 0)] (mk I z)) := e_L_to hd110 1 (by generalize e_L d 110 = K; generalize e_E d = E; rfl)
set_option maxRecDepth 20000 in
theorem B110_17 {d : Nat} {I : Nat → Nat → Int32} {z : e_Z} {x0 y0 : Int32}  : e_L d 110 17 [.int x0] [.int y0] (mk I z) = (if y0 = 0 ∨ y0 = 1 then some (.inl (some (.int y0)), mk I z) else none) := e_L_to hd110 1 (by generalize e_L d 110 = K; generalize e_E d = E; rfl)
def hd111 : List Nat := [0, 104, 106]
set_option maxRecDepth 20000 in
theorem B111_0 {d : Nat} {I : Nat → Nat → Int32} {z : e_Z} {x0 : Int32}  : e_L d 111 0 [.int x0] [] (mk I z) = (e_L d 111 (e_sel [(40, 104), (41, 104), (42, 104), (43, 104), (44, 106), (45, 104), (46, 106), (47, 104), (48, 106), (49, 106), (50, 106), (51, 106), (52, 106), (53, 106), (54, 106), (55, 106), (56, 106), (57, 106), (58, 106), (59, 104), (60, 104), (61, 104)] 106 x0) [.int x0] [] (mk I z)) := e_L_to hd111 1 (by generalize e_L d 111 = K; generalize e_E d = E; rfl)
set_option maxRecDepth 20000 in
theorem B111_104 {d : Nat} {I : Nat → Nat → Int32} {z : e_Z} {x0 : Int32}  : e_L d 111 104 [.int x0] [] (mk I z) = (if e_n 1 = 0 ∨ e_n 1 = 1 then some (.inl (some (.int (e_n 1))), mk I z) else none) := e_L_to hd111 2 (by generalize e_L d 111 = K; generalize e_E d = E; rfl)
set_option maxRecDepth 20000 in
theorem B111_106 {d : Nat} {I : Nat → Nat → Int32} {z : e_Z} {x0 : Int32}  : e_L d 111 106 [.int x0] [] (mk I z) = (if e_n 0 = 0 ∨ e_n 0 = 1 then some (.inl (some (.int (e_n 0))), mk I z) else none) := e_L_to hd111 2 (by generalize e_L d 111 = K; generalize e_E d = E; rfl)
def hd112 : List Nat := [0, 23, 35, 50, 65]
set_option maxRecDepth 20000 in
theorem B112_0 {d : Nat} {I : Nat → Nat → Int32} {z : e_Z}  : e_L d 112 0 [.ref 45] [] (mk I z) = (if e_cc .ge (I 45 6) ((I 45 2) - (e_n 1)) = true then (e_L d 112 23 [.ref 45] [] (mk I z)) else (e_L d 112 23 [.ref 45] [] (mk (e_u I 45 6 ((I 45 6) + (e_n 1))) z))) := e_L_to hd112 13 (by generalize e_L d 112 = K; generalize e_E d = E; rfl)
set_option maxRecDepth 20000 in
theorem B112_23 {d : Nat} {I : Nat → Nat → Int32} {z : e_Z}  : e_L d 112 23 [.ref 45] [] (mk I z) = (e_rI (e_E d 169 [.ref 47, .int (I 45 6)] (mk I z)) (fun v σ => e_L d 112 35 [.ref 45] [.int v, .ref 45] σ) (e_H (e_L d 112) 112 32 [.ref 45])) := e_L_to hd112 6 (by generalize e_L d 112 = K; generalize e_E d = E; rfl)
set_option maxRecDepth 20000 in
theorem B112_35 {d : Nat} {I : Nat → Nat → Int32} {z : e_Z} {y1 : Int32}  : e_L d 112 35 [.ref 45] [.int y1, .ref 45] (mk I z) = (e_rI (e_E d 169 [.ref 48, .int ((e_u I 45 7 y1) 45 6)] (mk (e_u I 45 7 y1) z)) (fun v σ => e_L d 112 50 [.ref 45] [.int v, .ref 45] σ) (e_H (e_L d 112) 112 47 [.ref 45])) := e_L_to hd112 7 (by generalize e_L d 112 = K; generalize e_E d = E; rfl)
set_option maxRecDepth 20000 in
theorem B112_50 {d : Nat} {I : Nat → Nat → Int32} {z : e_Z} {y1 : Int32}  : e_L d 112 50 [.ref 45] [.int y1, .ref 45] (mk I z) = (e_rI (e_E d 169 [.ref 49, .int ((e_u I 45 8 y1) 45 6)] (mk (e_u I 45 8 y1) z)) (fun v σ => e_L d 112 65 [.ref 45] [.int v, .ref 45] σ) (e_H (e_L d 112) 112 62 [.ref 45])) := e_L_to hd112 7 (by generalize e_L d 112 = K; generalize e_E d = E; rfl)
set_option maxRecDepth 20000 in
theorem B112_65 {d : Nat} {I : Nat → Nat → Int32} {z : e_Z} {y1 : Int32}  : e_L d 112 65 [.ref 45] [.int y1, .ref 45] (mk I z) = (some (.inl none, mk (e_u I 45 9 y1) z)) := e_L_to hd112 2 (by generalize e_L d 112 = K; generalize e_E d = E; rfl)
def hd113 : List Nat := [0, 20, 21]
set_option maxRecDepth 20000 in
theorem B113_0 {d : Nat} {I : Nat → Nat → Int32} {z : e_Z} {x1 : Int32}  : e_L d 113 0 [.ref 45, .int x1] [] (mk I z) = (if e_cc .ne (I 45 7) (e_n 4) = true then (e_L d 113 20 [.ref 45, .int x1] [] (mk I z)) else (if e_cc .ne (I 45 9) x1 = true then (e_L d 113 20 [.ref 45, .int x1] [] (mk I z)) else (e_L d 113 21 [.ref 45, .int x1] [.int (e_n 1)] (mk I z)))) := e_L_to hd113 10 (by generalize e_L d 113 = K; generalize e_E d = E; rfl)
set_option maxRecDepth 20000 in
theorem B113_20 {d : Nat} {I : Nat → Nat → Int32} {z : e_Z} {x1 : Int32}  : e_L d 113 20 [.ref 45, .int x1] [] (mk I z) = (e_L d 113 21 [.ref 45, .int x1] [.int (e_n 0)] (mk I z)) := e_L_to hd113 1 (by generalize e_L d 113 = K; generalize e_E d = E; rfl)
set_option maxRecDepth 20000 in
theorem B113_21 {d : Nat} {I : Nat → Nat → Int32} {z : e_Z} {x1 y0 : Int32}  : e_L d 113 21 [.ref 45, .int x1] [.int y0] (mk I z) = (if y0 = 0 ∨ y0 = 1 then some (.inl (some (.int y0)), mk I z) else none) := e_L_to hd113 1 (by generalize e_L d 113 = K; generalize e_E d = E; rfl)
def hd114 : List Nat := [0, 37, 38]
set_option maxRecDepth 20000 in
theorem B114_0 {d : Nat} {I : Nat → Nat → Int32} {z : e_Z}  : e_L d 114 0 [.ref 45] [] (mk I z) = (if e_cc .ne (I 45 7) (e_n 2) = true then (e_L d 114 37 [.ref 45] [] (mk I z)) else (if e_cc .lt (I 45 9) 0 = true then (e_L d 114 37 [.ref 45] [] (mk I z)) else (if e_cc .ge (I 45 9) (Int32.ofNat 17) = true then (e_L d 114 37 [.ref 45] [] (mk I z)) else (ck (I 45 9) 17 (e_L d 114 38 [.ref 45] [.ref (1000100 + (I 45 9).toNatClampNeg)] (mk I z)))))) := e_L_to hd114 17 (by generalize e_L d 114 = K; generalize e_E d = E; rfl)
set_option maxRecDepth 20000 in
theorem B114_37 {d : Nat} {I : Nat → Nat → Int32} {z : e_Z}  : e_L d 114 37 [.ref 45] [] (mk I z) = (e_L d 114 38 [.ref 45] [.ref 0] (mk I z)) := e_L_to hd114 1 (by generalize e_L d 114 = K; generalize e_E d = E; rfl)
set_option maxRecDepth 20000 in
theorem B114_38 {d : Nat} {I : Nat → Nat → Int32} {z : e_Z} {s0 : Nat}  : e_L d 114 38 [.ref 45] [.ref s0] (mk I z) = (some (.inl (some (.ref s0)), mk I z)) := e_L_to hd114 1 (by generalize e_L d 114 = K; generalize e_E d = E; rfl)
def hd116 : List Nat := [0, 20, 25, 30, 36, 42]
set_option maxRecDepth 20000 in
theorem B116_0 {d : Nat} {I : Nat → Nat → Int32} {z : e_Z} {x1 x2 x3 x4 x5 : Int32}  : e_L d 116 0 [.ref 1, .int x1, .int x2, .int x3, .int x4, .int x5] [] (mk I z) = (if e_cc .le ((I 1 1) + (e_n 20)) (e_n 700) = true then (e_rV (e_E d 117 [.ref 1, .int x1] (mk I z)) (fun σ => e_L d 116 20 [.ref 1, .int x1, .int x2, .int x3, .int x4, .int x5] [] σ) (e_H (e_L d 116) 116 17 [.ref 1, .int x1, .int x2, .int x3, .int x4, .int x5])) else (some (.inl (some (.int (e_n (-1)))), mk I z))) := e_L_to hd116 9 (by generalize e_L d 116 = K; generalize e_E d = E; rfl)
set_option maxRecDepth 20000 in
theorem B116_20 {d : Nat} {I : Nat → Nat → Int32} {z : e_Z} {x1 x2 x3 x4 x5 : Int32}  : e_L d 116 20 [.ref 1, .int x1, .int x2, .int x3, .int x4, .int x5] [] (mk I z) = (e_rV (e_E d 117 [.ref 1, .int x2] (mk I z)) (fun σ => e_L d 116 25 [.ref 1, .int x1, .int x2, .int x3, .int x4, .int x5] [] σ) (e_H (e_L d 116) 116 22 [.ref 1, .int x1, .int x2, .int x3, .int x4, .int x5])) := e_L_to hd116 3 (by generalize e_L d 116 = K; generalize e_E d = E; rfl)
set_option maxRecDepth 20000 in
theorem B116_25 {d : Nat} {I : Nat → Nat → Int32} {z : e_Z} {x1 x2 x3 x4 x5 : Int32}  : e_L d 116 25 [.ref 1, .int x1, .int x2, .int x3, .int x4, .int x5] [] (mk I z) = (e_rV (e_E d 117 [.ref 1, .int x3] (mk I z)) (fun σ => e_L d 116 30 [.ref 1, .int x1, .int x2, .int x3, .int x4, .int x5] [] σ) (e_H (e_L d 116) 116 27 [.ref 1, .int x1, .int x2, .int x3, .int x4, .int x5])) := e_L_to hd116 3 (by generalize e_L d 116 = K; generalize e_E d = E; rfl)
set_option maxRecDepth 20000 in
theorem B116_30 {d : Nat} {I : Nat → Nat → Int32} {z : e_Z} {x1 x2 x3 x4 x5 : Int32}  : e_L d 116 30 [.ref 1, .int x1, .int x2, .int x3, .int x4, .int x5] [] (mk I z) = (e_rV (e_E d 117 [.ref 1, .int x4] (mk I z)) (fun σ => e_L d 116 36 [.ref 1, .int x1, .int x2, .int x3, .int x4, .int x5] [] σ) (e_H (e_L d 116) 116 33 [.ref 1, .int x1, .int x2, .int x3, .int x4, .int x5])) := e_L_to hd116 3 (by generalize e_L d 116 = K; generalize e_E d = E; rfl)
set_option maxRecDepth 20000 in
theorem B116_36 {d : Nat} {I : Nat → Nat → Int32} {z : e_Z} {x1 x2 x3 x4 x5 : Int32}  : e_L d 116 36 [.ref 1, .int x1, .int x2, .int x3, .int x4, .int x5] [] (mk I z) = (e_rV (e_E d 117 [.ref 1, .int x5] (mk I z)) (fun σ => e_L d 116 42 [.ref 1, .int x1, .int x2, .int x3, .int x4, .int x5] [] σ) (e_H (e_L d 116) 116 39 [.ref 1, .int x1, .int x2, .int x3, .int x4, .int x5])) := e_L_to hd116 3 (by generalize e_L d 116 = K; generalize e_E d = E; rfl)
set_option maxRecDepth 20000 in
theorem B116_42 {d : Nat} {I : Nat → Nat → Int32} {z : e_Z} {x1 x2 x3 x4 x5 : Int32}  : e_L d 116 42 [.ref 1, .int x1, .int x2, .int x3, .int x4, .int x5] [] (mk I z) = (some (.inl (some (.int (I 1 1))), mk I z)) := e_L_to hd116 3 (by generalize e_L d 116 = K; generalize e_E d = E; rfl)
def hd117 : List Nat := [0, 3, 25]
set_option maxRecDepth 20000 in
theorem B117_0 {d : Nat} {I : Nat → Nat → Int32} {z : e_Z} {x1 : Int32}  : e_L d 117 0 [.ref 1, .int x1, .null] [] (mk I z) = (e_L d 117 3 [.ref 1, .int x1, .int (e_n 24)] [] (mk I z)) := e_L_to hd117 2 (by generalize e_L d 117 = K; generalize e_E d = E; rfl)
set_option maxRecDepth 20000 in
theorem B117_3 {d : Nat} {I : Nat → Nat → Int32} {z : e_Z} {x1 x2 : Int32}  : e_L d 117 3 [.ref 1, .int x1, .int x2] [] (mk I z) = (if e_cc .lt x2 0 = true then (some (.inl none, mk I z)) else (e_rV (e_E d 170 [.ref 2, .int (I 1 1), .int ((e_shr x1 x2) &&& (e_n 255))] (mk I z)) (fun σ => e_L d 117 25 [.ref 1, .int x1, .int x2] [] σ) (e_H (e_L d 117) 117 22 [.ref 1, .int x1, .int x2]))) := e_L_to hd117 12 (by generalize e_L d 117 = K; generalize e_E d = E; rfl)
set_option maxRecDepth 20000 in
theorem B117_25 {d : Nat} {I : Nat → Nat → Int32} {z : e_Z} {x1 x2 : Int32}  : e_L d 117 25 [.ref 1, .int x1, .int x2] [] (mk I z) = (e_L d 117 3 [.ref 1, .int x1, .int (x2 + e_n (-8))] [] (mk (e_u I 1 1 ((I 1 1) + (e_n 1))) z)) := e_L_to hd117 8 (by generalize e_L d 117 = K; generalize e_E d = E; rfl)
def hd118 : List Nat := [0, 12, 43, 64, 79, 84, 95]
set_option maxRecDepth 20000 in
theorem B118_0 {d : Nat} {I : Nat → Nat → Int32} {z : e_Z} {x1 : Int32}  : e_L d 118 0 [.ref 1, .int x1, .null, .null] [] (mk I z) = (if e_cc .lt x1 0 = true then (e_L d 118 12 [.ref 1, .int x1, .null, .null] [] (mk I z)) else (if e_cc .le x1 (I 1 1) = true then (e_rI (e_E d 60 [.ref 44, .ref 2, .int x1, .ref (bd (!z.2.1.1))] (mk (e_u I 1 1 (e_n 0)) z)) (fun v σ => e_L d 118 43 [.ref 1, .int x1, .null, .null] [.int v] σ) (e_H (e_L d 118) 118 40 [.ref 1, .int x1, .null, .null])) else (e_L d 118 12 [.ref 1, .int x1, .null, .null] [] (mk I z)))) := e_L_to hd118 17 (by generalize e_L d 118 = K; generalize e_E d = E; rfl)
set_option maxRecDepth 20000 in
theorem B118_12 {d : Nat} {I : Nat → Nat → Int32} {z : e_Z} {x1 : Int32}  : e_L d 118 12 [.ref 1, .int x1, .null, .null] [] (mk I z) = (some (.inr 1, e_exc (mk I z))) := e_L_to hd118 1 (by generalize e_L d 118 = K; generalize e_E d = E; rfl)
set_option maxRecDepth 20000 in
theorem B118_43 {d : Nat} {I : Nat → Nat → Int32} {z : e_Z} {x1 y0 : Int32}  : e_L d 118 43 [.ref 1, .int x1, .null, .null] [.int y0] (mk I z) = (if e_cc .eq y0 0 = true then (e_L d 118 79 [.ref 1, .int x1, .int y0, .ref (bd (!z.2.1.1))] [] (ms (e_u I 1 2 (I 44 3)) z.1 (e_u (fr z.2.1) 1 5 (bd z.2.1.1)) z.2.2.1 z.2.2.2)) else (e_rV (e_E d 120 [.ref 1, .int (e_n 0)] (mk (e_u I 1 2 (I 44 3)) z)) (fun σ => e_L d 118 64 [.ref 1, .int x1, .int y0, .null] [] σ) (e_H (e_L d 118) 118 61 [.ref 1, .int x1, .int y0, .null]))) := e_L_to hd118 15 (by generalize e_L d 118 = K; generalize e_E d = E; rfl)
set_option maxRecDepth 20000 in
theorem B118_64 {d : Nat} {I : Nat → Nat → Int32} {z : e_Z} {x1 x2 : Int32}  : e_L d 118 64 [.ref 1, .int x1, .int x2, .null] [] (mk I z) = (some (.inl (some (.int x2)), mk I z)) := e_L_to hd118 2 (by generalize e_L d 118 = K; generalize e_E d = E; rfl)
set_option maxRecDepth 20000 in
theorem B118_79 {d : Nat} {I : Nat → Nat → Int32} {z : e_Z} {x1 x2 : Int32}  : e_L d 118 79 [.ref 1, .int x1, .int x2, .ref (bd (!z.2.1.1))] [] (mk I z) = (e_L d 118 84 [.ref 1, .int x1, .int x2, .ref (bd (!z.2.1.1))] [] (ms I z.1 (e_u (fr z.2.1) 1 4 (bd (!z.2.1.1))) z.2.2.1 z.2.2.2)) := e_L_to hd118 3 (by generalize e_L d 118 = K; generalize e_E d = E; rfl)
set_option maxRecDepth 20000 in
theorem B118_84 {d : Nat} {I : Nat → Nat → Int32} {z : e_Z} {x1 x2 : Int32}  : e_L d 118 84 [.ref 1, .int x1, .int x2, .ref (bd (!z.2.1.1))] [] (mk I z) = (e_rV (e_E d 94 [.ref 50, .ref (bd z.2.1.1)] (mk I z)) (fun σ => e_L d 118 95 [.ref 1, .int x1, .int x2, .ref (bd (!z.2.1.1))] [] σ) (e_H (e_L d 118) 118 92 [.ref 1, .int x1, .int x2, .ref (bd (!z.2.1.1))])) := e_L_to hd118 5 (by generalize e_L d 118 = K; generalize e_E d = E; rfl)
set_option maxRecDepth 20000 in
theorem B118_95 {d : Nat} {I : Nat → Nat → Int32} {z : e_Z} {x1 x2 : Int32}  : e_L d 118 95 [.ref 1, .int x1, .int x2, .ref (bd (!z.2.1.1))] [] (mk I z) = (if 11 = 11 ∧ (e_n 0 = 0 ∨ e_n 0 = 1) then (some (.inl (some (.int (e_n 0))), mk (e_u I 1 9 (e_n 0)) z)) else none) := e_L_to hd118 5 (by generalize e_L d 118 = K; generalize e_E d = E; rfl)
def hd119 : List Nat := [0]
set_option maxRecDepth 20000 in
theorem B119_0 {d : Nat} {I : Nat → Nat → Int32} {z : e_Z}  : e_L d 119 0 [.ref 1] [] (mk I z) = (some (.inl (some (.int (I 1 2))), mk I z)) := e_L_to hd119 3 (by generalize e_L d 119 = K; generalize e_E d = E; rfl)
def hd120 : List Nat := [0, 13, 18]
set_option maxRecDepth 20000 in
theorem B120_0 {d : Nat} {I : Nat → Nat → Int32} {z : e_Z} {x1 : Int32}  : e_L d 120 0 [.ref 1, .int x1] [] (mk I z) = (e_rI (e_E d 169 [.ref 3, .int x1] (mk I z)) (fun v σ => e_L d 120 13 [.ref 1, .int x1] [.int v, .int x1, .ref 3] σ) (e_H (e_L d 120) 120 10 [.ref 1, .int x1])) := e_L_to hd120 7 (by generalize e_L d 120 = K; generalize e_E d = E; rfl)
set_option maxRecDepth 20000 in
theorem B120_13 {d : Nat} {I : Nat → Nat → Int32} {z : e_Z} {x1 y1 y2 : Int32}  : e_L d 120 13 [.ref 1, .int x1] [.int y2, .int y1, .ref 3] (mk I z) = (e_rV (e_E d 170 [.ref 3, .int y1, .int (y2 + (e_n 1))] (mk I z)) (fun σ => e_L d 120 18 [.ref 1, .int x1] [] σ) (e_H (e_L d 120) 120 15 [.ref 1, .int x1])) := e_L_to hd120 3 (by generalize e_L d 120 = K; generalize e_E d = E; rfl)
set_option maxRecDepth 20000 in
theorem B120_18 {d : Nat} {I : Nat → Nat → Int32} {z : e_Z} {x1 : Int32}  : e_L d 120 18 [.ref 1, .int x1] [] (mk I z) = (some (.inl none, mk I z)) := e_L_to hd120 1 (by generalize e_L d 120 = K; generalize e_E d = E; rfl)
def hd121 : List Nat := [0, 92, 100, 111, 122, 130, 135, 140, 145, 153, 154, 159, 171, 172, 183, 191, 199, 207, 212, 220, 221, 229, 230, 238, 239]
set_option maxRecDepth 20000 in
theorem B121_0 {d : Nat} {I : Nat → Nat → Int32} {z : e_Z} {x1 : Int32}  : e_L d 121 0 [.ref 1, .int x1, .null] [] (mk I z) = (e_L d 121 (e_sel [(0, 92), (1, 100), (2, 111), (3, 122), (4, 130), (5, 135), (6, 140), (7, 145), (8, 154), (9, 159), (10, 172), (11, 191), (12, 199), (13, 207), (14, 212), (15, 221), (16, 230)] 239 x1) [.ref 1, .int x1, .ref 51] [] (mk I z)) := e_L_to hd121 5 (by generalize e_L d 121 = K; generalize e_E d = E; rfl)
set_option maxRecDepth 20000 in
theorem B121_92 {d : Nat} {I : Nat → Nat → Int32} {z : e_Z} {x1 : Int32}  : e_L d 121 92 [.ref 1, .int x1, .ref 51] [] (mk I z) = (some (.inl (some (.int (I (bd z.2.1.1) 2))), mk I z)) := by
  rcases z with ⟨J, ⟨_|_, rb, fb, tt⟩, cs, X⟩
  all_goals exact e_L_to hd121 4 (by generalize e_L d 121 = K; generalize e_E d = E; rfl)
set_option maxRecDepth 20000 in
theorem B121_100 {d : Nat} {I : Nat → Nat → Int32} {z : e_Z} {x1 : Int32}  : e_L d 121 100 [.ref 1, .int x1, .ref 51] [] (mk I z) = (some (.inl (some (.int (I (bd z.2.1.1 + 1) 0))), mk I z)) := by
  rcases z with ⟨J, ⟨_|_, rb, fb, tt⟩, cs, X⟩
  all_goals exact e_L_to hd121 5 (by generalize e_L d 121 = K; generalize e_E d = E; rfl)
set_option maxRecDepth 20000 in
theorem B121_111 {d : Nat} {I : Nat → Nat → Int32} {z : e_Z} {x1 : Int32}  : e_L d 121 111 [.ref 1, .int x1, .ref 51] [] (mk I z) = (some (.inl (some (.int (I (bd z.2.1.1 + 1) 1))), mk I z)) := by
  rcases z with ⟨J, ⟨_|_, rb, fb, tt⟩, cs, X⟩
  all_goals exact e_L_to hd121 5 (by generalize e_L d 121 = K; generalize e_E d = E; rfl)
set_option maxRecDepth 20000 in
theorem B121_122 {d : Nat} {I : Nat → Nat → Int32} {z : e_Z} {x1 : Int32}  : e_L d 121 122 [.ref 1, .int x1, .ref 51] [] (mk I z) = (some (.inl (some (.int (I (bd z.2.1.1) 6))), mk I z)) := by
  rcases z with ⟨J, ⟨_|_, rb, fb, tt⟩, cs, X⟩
  all_goals exact e_L_to hd121 4 (by generalize e_L d 121 = K; generalize e_E d = E; rfl)
set_option maxRecDepth 20000 in
theorem B121_130 {d : Nat} {I : Nat → Nat → Int32} {z : e_Z} {x1 : Int32}  : e_L d 121 130 [.ref 1, .int x1, .ref 51] [] (mk I z) = (some (.inl (some (.int (I 51 0))), mk I z)) := e_L_to hd121 3 (by generalize e_L d 121 = K; generalize e_E d = E; rfl)
set_option maxRecDepth 20000 in
theorem B121_135 {d : Nat} {I : Nat → Nat → Int32} {z : e_Z} {x1 : Int32}  : e_L d 121 135 [.ref 1, .int x1, .ref 51] [] (mk I z) = (some (.inl (some (.int (I 51 1))), mk I z)) := e_L_to hd121 3 (by generalize e_L d 121 = K; generalize e_E d = E; rfl)
set_option maxRecDepth 20000 in
theorem B121_140 {d : Nat} {I : Nat → Nat → Int32} {z : e_Z} {x1 : Int32}  : e_L d 121 140 [.ref 1, .int x1, .ref 51] [] (mk I z) = (some (.inl (some (.int (I 51 2))), mk I z)) := e_L_to hd121 3 (by generalize e_L d 121 = K; generalize e_E d = E; rfl)
set_option maxRecDepth 20000 in
theorem B121_145 {d : Nat} {I : Nat → Nat → Int32} {z : e_Z} {x1 : Int32}  : e_L d 121 145 [.ref 1, .int x1, .ref 51] [] (mk I z) = (e_rI (e_E d 49 [.ref 51, .ref (bd z.2.1.1)] (mk I z)) (fun v σ => e_L d 121 153 [.ref 1, .int x1, .ref 51] [.int v] σ) (e_H (e_L d 121) 121 150 [.ref 1, .int x1, .ref 51])) := e_L_to hd121 4 (by generalize e_L d 121 = K; generalize e_E d = E; rfl)
set_option maxRecDepth 20000 in
theorem B121_153 {d : Nat} {I : Nat → Nat → Int32} {z : e_Z} {x1 y0 : Int32}  : e_L d 121 153 [.ref 1, .int x1, .ref 51] [.int y0] (mk I z) = (some (.inl (some (.int y0)), mk I z)) := e_L_to hd121 1 (by generalize e_L d 121 = K; generalize e_E d = E; rfl)
set_option maxRecDepth 20000 in
theorem B121_154 {d : Nat} {I : Nat → Nat → Int32} {z : e_Z} {x1 : Int32}  : e_L d 121 154 [.ref 1, .int x1, .ref 51] [] (mk I z) = (some (.inl (some (.int (I 51 3))), mk I z)) := e_L_to hd121 3 (by generalize e_L d 121 = K; generalize e_E d = E; rfl)
set_option maxRecDepth 20000 in
theorem B121_159 {d : Nat} {I : Nat → Nat → Int32} {z : e_Z} {x1 : Int32}  : e_L d 121 159 [.ref 1, .int x1, .ref 51] [] (mk I z) = (if e_cc .eq (I 51 4) 0 = true then (e_L d 121 171 [.ref 1, .int x1, .ref 51] [.int (e_n 0)] (mk I z)) else (e_L d 121 171 [.ref 1, .int x1, .ref 51] [.int (e_n 1)] (mk I z))) := e_L_to hd121 5 (by generalize e_L d 121 = K; generalize e_E d = E; rfl)
set_option maxRecDepth 20000 in
theorem B121_171 {d : Nat} {I : Nat → Nat → Int32} {z : e_Z} {x1 y0 : Int32}  : e_L d 121 171 [.ref 1, .int x1, .ref 51] [.int y0] (mk I z) = (some (.inl (some (.int y0)), mk I z)) := e_L_to hd121 1 (by generalize e_L d 121 = K; generalize e_E d = E; rfl)
set_option maxRecDepth 20000 in
theorem B121_172 {d : Nat} {I : Nat → Nat → Int32} {z : e_Z} {x1 : Int32}  : e_L d 121 172 [.ref 1, .int x1, .ref 51] [] (mk I z) = (e_rI (e_E d 8 [.ref (bd z.2.1.1), .int (I 51 1)] (mk I z)) (fun v σ => e_L d 121 183 [.ref 1, .int x1, .ref 51] [.int v] σ) (e_H (e_L d 121) 121 180 [.ref 1, .int x1, .ref 51])) := by
  rcases z with ⟨J, ⟨_|_, rb, fb, tt⟩, cs, X⟩
  all_goals exact e_L_to hd121 5 (by generalize e_L d 121 = K; generalize e_E d = E; rfl)
set_option maxRecDepth 20000 in
theorem B121_183 {d : Nat} {I : Nat → Nat → Int32} {z : e_Z} {x1 y0 : Int32}  : e_L d 121 183 [.ref 1, .int x1, .ref 51] [.int y0] (mk I z) = (some (.inl (some (.int (y0 &&& ((I 51 1) ^^^ (e_n (-1)))))), mk I z)) := e_L_to hd121 6 (by generalize e_L d 121 = K; generalize e_E d = E; rfl)
set_option maxRecDepth 20000 in
theorem B121_191 {d : Nat} {I : Nat → Nat → Int32} {z : e_Z} {x1 : Int32}  : e_L d 121 191 [.ref 1, .int x1, .ref 51] [] (mk I z) = (some (.inl (some (.int (I 50 3))), mk I z)) := e_L_to hd121 4 (by generalize e_L d 121 = K; generalize e_E d = E; rfl)
set_option maxRecDepth 20000 in
theorem B121_199 {d : Nat} {I : Nat → Nat → Int32} {z : e_Z} {x1 : Int32}  : e_L d 121 199 [.ref 1, .int x1, .ref 51] [] (mk I z) = (some (.inl (some (.int (I 50 4))), mk I z)) := e_L_to hd121 4 (by generalize e_L d 121 = K; generalize e_E d = E; rfl)
set_option maxRecDepth 20000 in
theorem B121_207 {d : Nat} {I : Nat → Nat → Int32} {z : e_Z} {x1 : Int32}  : e_L d 121 207 [.ref 1, .int x1, .ref 51] [] (mk I z) = (some (.inl (some (.int (I 1 1))), mk I z)) := e_L_to hd121 3 (by generalize e_L d 121 = K; generalize e_E d = E; rfl)
set_option maxRecDepth 20000 in
theorem B121_212 {d : Nat} {I : Nat → Nat → Int32} {z : e_Z} {x1 : Int32}  : e_L d 121 212 [.ref 1, .int x1, .ref 51] [] (mk I z) = (e_rI (e_E d 169 [.ref 3, .int (e_n 0)] (mk I z)) (fun v σ => e_L d 121 220 [.ref 1, .int x1, .ref 51] [.int v] σ) (e_H (e_L d 121) 121 217 [.ref 1, .int x1, .ref 51])) := e_L_to hd121 4 (by generalize e_L d 121 = K; generalize e_E d = E; rfl)
set_option maxRecDepth 20000 in
theorem B121_220 {d : Nat} {I : Nat → Nat → Int32} {z : e_Z} {x1 y0 : Int32}  : e_L d 121 220 [.ref 1, .int x1, .ref 51] [.int y0] (mk I z) = (some (.inl (some (.int y0)), mk I z)) := e_L_to hd121 1 (by generalize e_L d 121 = K; generalize e_E d = E; rfl)
set_option maxRecDepth 20000 in
theorem B121_221 {d : Nat} {I : Nat → Nat → Int32} {z : e_Z} {x1 : Int32}  : e_L d 121 221 [.ref 1, .int x1, .ref 51] [] (mk I z) = (e_rI (e_E d 169 [.ref 3, .int (e_n 1)] (mk I z)) (fun v σ => e_L d 121 229 [.ref 1, .int x1, .ref 51] [.int v] σ) (e_H (e_L d 121) 121 226 [.ref 1, .int x1, .ref 51])) := e_L_to hd121 4 (by generalize e_L d 121 = K; generalize e_E d = E; rfl)
set_option maxRecDepth 20000 in
theorem B121_229 {d : Nat} {I : Nat → Nat → Int32} {z : e_Z} {x1 y0 : Int32}  : e_L d 121 229 [.ref 1, .int x1, .ref 51] [.int y0] (mk I z) = (some (.inl (some (.int y0)), mk I z)) := e_L_to hd121 1 (by generalize e_L d 121 = K; generalize e_E d = E; rfl)
set_option maxRecDepth 20000 in
theorem B121_230 {d : Nat} {I : Nat → Nat → Int32} {z : e_Z} {x1 : Int32}  : e_L d 121 230 [.ref 1, .int x1, .ref 51] [] (mk I z) = (e_rI (e_E d 169 [.ref 3, .int (e_n 2)] (mk I z)) (fun v σ => e_L d 121 238 [.ref 1, .int x1, .ref 51] [.int v] σ) (e_H (e_L d 121) 121 235 [.ref 1, .int x1, .ref 51])) := e_L_to hd121 4 (by generalize e_L d 121 = K; generalize e_E d = E; rfl)
set_option maxRecDepth 20000 in
theorem B121_238 {d : Nat} {I : Nat → Nat → Int32} {z : e_Z} {x1 y0 : Int32}  : e_L d 121 238 [.ref 1, .int x1, .ref 51] [.int y0] (mk I z) = (some (.inl (some (.int y0)), mk I z)) := e_L_to hd121 1 (by generalize e_L d 121 = K; generalize e_E d = E; rfl)
set_option maxRecDepth 20000 in
theorem B121_239 {d : Nat} {I : Nat → Nat → Int32} {z : e_Z} {x1 : Int32}  : e_L d 121 239 [.ref 1, .int x1, .ref 51] [] (mk I z) = (some (.inr 0, e_exc (mk I z))) := e_L_to hd121 1 (by generalize e_L d 121 = K; generalize e_E d = E; rfl)
def hd122 : List Nat := [0, 5, 36, 50, 51, 62, 63, 74, 75, 86, 87]
set_option maxRecDepth 20000 in
theorem B122_0 {d : Nat} {I : Nat → Nat → Int32} {z : e_Z} {x1 x2 : Int32}  : e_L d 122 0 [.ref 1, .int x1, .int x2] [] (mk I z) = (e_rV (e_E d 164 [.ref 1, .int x1] (mk I z)) (fun σ => e_L d 122 5 [.ref 1, .int x1, .int x2] [] σ) (e_H (e_L d 122) 122 2 [.ref 1, .int x1, .int x2])) := e_L_to hd122 3 (by generalize e_L d 122 = K; generalize e_E d = E; rfl)
set_option maxRecDepth 20000 in
theorem B122_5 {d : Nat} {I : Nat → Nat → Int32} {z : e_Z} {x1 x2 : Int32}  : e_L d 122 5 [.ref 1, .int x1, .int x2] [] (mk I z) = (e_L d 122 (e_sel [(0, 36), (1, 51), (2, 63), (3, 75)] 87 x2) [.ref 1, .int x1, .int x2] [] (mk I z)) := e_L_to hd122 1 (by generalize e_L d 122 = K; generalize e_E d = E; rfl)
set_option maxRecDepth 20000 in
theorem B122_36 {d : Nat} {I : Nat → Nat → Int32} {z : e_Z} {x1 x2 : Int32}  : e_L d 122 36 [.ref 1, .int x1, .int x2] [] (mk I z) = (e_rI (e_E d 169 [.ref 55, .int x1] (mk I z)) (fun v σ => e_L d 122 50 [.ref 1, .int x1, .int x2] [.int v] σ) (e_H (e_L d 122) 122 47 [.ref 1, .int x1, .int x2])) := e_L_to hd122 6 (by generalize e_L d 122 = K; generalize e_E d = E; rfl)
set_option maxRecDepth 20000 in
theorem B122_50 {d : Nat} {I : Nat → Nat → Int32} {z : e_Z} {x1 x2 y0 : Int32}  : e_L d 122 50 [.ref 1, .int x1, .int x2] [.int y0] (mk I z) = (some (.inl (some (.int y0)), mk I z)) := e_L_to hd122 1 (by generalize e_L d 122 = K; generalize e_E d = E; rfl)
set_option maxRecDepth 20000 in
theorem B122_51 {d : Nat} {I : Nat → Nat → Int32} {z : e_Z} {x1 x2 : Int32}  : e_L d 122 51 [.ref 1, .int x1, .int x2] [] (mk I z) = (e_rI (e_E d 169 [.ref (bd z.2.1.1 + 13), .int x1] (mk I z)) (fun v σ => e_L d 122 62 [.ref 1, .int x1, .int x2] [.int v] σ) (e_H (e_L d 122) 122 59 [.ref 1, .int x1, .int x2])) := by
  rcases z with ⟨J, ⟨_|_, rb, fb, tt⟩, cs, X⟩
  all_goals exact e_L_to hd122 5 (by generalize e_L d 122 = K; generalize e_E d = E; rfl)
set_option maxRecDepth 20000 in
theorem B122_62 {d : Nat} {I : Nat → Nat → Int32} {z : e_Z} {x1 x2 y0 : Int32}  : e_L d 122 62 [.ref 1, .int x1, .int x2] [.int y0] (mk I z) = (some (.inl (some (.int y0)), mk I z)) := e_L_to hd122 1 (by generalize e_L d 122 = K; generalize e_E d = E; rfl)
set_option maxRecDepth 20000 in
theorem B122_63 {d : Nat} {I : Nat → Nat → Int32} {z : e_Z} {x1 x2 : Int32}  : e_L d 122 63 [.ref 1, .int x1, .int x2] [] (mk I z) = (e_rI (e_E d 169 [.ref (bd z.2.1.1 + 14), .int x1] (mk I z)) (fun v σ => e_L d 122 74 [.ref 1, .int x1, .int x2] [.int v] σ) (e_H (e_L d 122) 122 71 [.ref 1, .int x1, .int x2])) := by
  rcases z with ⟨J, ⟨_|_, rb, fb, tt⟩, cs, X⟩
  all_goals exact e_L_to hd122 5 (by generalize e_L d 122 = K; generalize e_E d = E; rfl)
set_option maxRecDepth 20000 in
theorem B122_74 {d : Nat} {I : Nat → Nat → Int32} {z : e_Z} {x1 x2 y0 : Int32}  : e_L d 122 74 [.ref 1, .int x1, .int x2] [.int y0] (mk I z) = (some (.inl (some (.int y0)), mk I z)) := e_L_to hd122 1 (by generalize e_L d 122 = K; generalize e_E d = E; rfl)
set_option maxRecDepth 20000 in
theorem B122_75 {d : Nat} {I : Nat → Nat → Int32} {z : e_Z} {x1 x2 : Int32}  : e_L d 122 75 [.ref 1, .int x1, .int x2] [] (mk I z) = (e_rI (e_E d 52 [.ref 51, .int x1] (mk I z)) (fun v σ => e_L d 122 86 [.ref 1, .int x1, .int x2] [.int v] σ) (e_H (e_L d 122) 122 83 [.ref 1, .int x1, .int x2])) := e_L_to hd122 5 (by generalize e_L d 122 = K; generalize e_E d = E; rfl)
set_option maxRecDepth 20000 in
theorem B122_86 {d : Nat} {I : Nat → Nat → Int32} {z : e_Z} {x1 x2 y0 : Int32}  : e_L d 122 86 [.ref 1, .int x1, .int x2] [.int y0] (mk I z) = (some (.inl (some (.int y0)), mk I z)) := e_L_to hd122 1 (by generalize e_L d 122 = K; generalize e_E d = E; rfl)
set_option maxRecDepth 20000 in
theorem B122_87 {d : Nat} {I : Nat → Nat → Int32} {z : e_Z} {x1 x2 : Int32}  : e_L d 122 87 [.ref 1, .int x1, .int x2] [] (mk I z) = (some (.inr 0, e_exc (mk I z))) := e_L_to hd122 1 (by generalize e_L d 122 = K; generalize e_E d = E; rfl)
def hd123 : List Nat := [0, 5, 32, 46, 47, 62, 63, 74, 79, 82, 83]
set_option maxRecDepth 20000 in
theorem B123_0 {d : Nat} {I : Nat → Nat → Int32} {z : e_Z} {x1 x2 : Int32}  : e_L d 123 0 [.ref 1, .int x1, .int x2] [] (mk I z) = (e_rV (e_E d 165 [.ref 1, .int x1] (mk I z)) (fun σ => e_L d 123 5 [.ref 1, .int x1, .int x2] [] σ) (e_H (e_L d 123) 123 2 [.ref 1, .int x1, .int x2])) := e_L_to hd123 3 (by generalize e_L d 123 = K; generalize e_E d = E; rfl)
set_option maxRecDepth 20000 in
theorem B123_5 {d : Nat} {I : Nat → Nat → Int32} {z : e_Z} {x1 x2 : Int32}  : e_L d 123 5 [.ref 1, .int x1, .int x2] [] (mk I z) = (e_L d 123 (e_sel [(0, 32), (1, 47), (2, 63)] 83 x2) [.ref 1, .int x1, .int x2] [] (mk I z)) := e_L_to hd123 1 (by generalize e_L d 123 = K; generalize e_E d = E; rfl)
set_option maxRecDepth 20000 in
theorem B123_32 {d : Nat} {I : Nat → Nat → Int32} {z : e_Z} {x1 x2 : Int32}  : e_L d 123 32 [.ref 1, .int x1, .int x2] [] (mk I z) = (e_rI (e_E d 169 [.ref (bd z.2.1.1 + 2), .int x1] (mk I z)) (fun v σ => e_L d 123 46 [.ref 1, .int x1, .int x2] [.int v] σ) (e_H (e_L d 123) 123 43 [.ref 1, .int x1, .int x2])) := by
  rcases z with ⟨J, ⟨_|_, rb, fb, tt⟩, cs, X⟩
  all_goals exact e_L_to hd123 6 (by generalize e_L d 123 = K; generalize e_E d = E; rfl)
set_option maxRecDepth 20000 in
theorem B123_46 {d : Nat} {I : Nat → Nat → Int32} {z : e_Z} {x1 x2 y0 : Int32}  : e_L d 123 46 [.ref 1, .int x1, .int x2] [.int y0] (mk I z) = (some (.inl (some (.int y0)), mk I z)) := e_L_to hd123 1 (by generalize e_L d 123 = K; generalize e_E d = E; rfl)
set_option maxRecDepth 20000 in
theorem B123_47 {d : Nat} {I : Nat → Nat → Int32} {z : e_Z} {x1 x2 : Int32}  : e_L d 123 47 [.ref 1, .int x1, .int x2] [] (mk I z) = (e_rI (e_E d 48 [.ref 51, .ref (bd z.2.1.1), .int x1] (mk I z)) (fun v σ => e_L d 123 62 [.ref 1, .int x1, .int x2] [.int v] σ) (e_H (e_L d 123) 123 59 [.ref 1, .int x1, .int x2])) := e_L_to hd123 7 (by generalize e_L d 123 = K; generalize e_E d = E; rfl)
set_option maxRecDepth 20000 in
theorem B123_62 {d : Nat} {I : Nat → Nat → Int32} {z : e_Z} {x1 x2 y0 : Int32}  : e_L d 123 62 [.ref 1, .int x1, .int x2] [.int y0] (mk I z) = (some (.inl (some (.int y0)), mk I z)) := e_L_to hd123 1 (by generalize e_L d 123 = K; generalize e_E d = E; rfl)
set_option maxRecDepth 20000 in
theorem B123_63 {d : Nat} {I : Nat → Nat → Int32} {z : e_Z} {x1 x2 : Int32}  : e_L d 123 63 [.ref 1, .int x1, .int x2] [] (mk I z) = (e_rI (e_E d 173 [.int x1] (mk I z)) (fun v σ => e_L d 123 74 [.ref 1, .int x1, .int x2] [.int v, .ref (bd z.2.1.1 + 1)] σ) (e_H (e_L d 123) 123 71 [.ref 1, .int x1, .int x2])) := by
  rcases z with ⟨J, ⟨_|_, rb, fb, tt⟩, cs, X⟩
  all_goals exact e_L_to hd123 5 (by generalize e_L d 123 = K; generalize e_E d = E; rfl)
set_option maxRecDepth 20000 in
theorem B123_74 {d : Nat} {I : Nat → Nat → Int32} {z : e_Z} {x1 x2 y1 : Int32}  : e_L d 123 74 [.ref 1, .int x1, .int x2] [.int y1, .ref (bd z.2.1.1 + 1)] (mk I z) = (e_rI (e_E d 32 [.ref (bd z.2.1.1 + 1), .int y1, .int (e_n (-1)), .int (e_n (-1))] (mk I z)) (fun v σ => e_L d 123 79 [.ref 1, .int x1, .int x2] [.int v] σ) (e_H (e_L d 123) 123 76 [.ref 1, .int x1, .int x2])) := by
  rcases z with ⟨J, ⟨_|_, rb, fb, tt⟩, cs, X⟩
  all_goals exact e_L_to hd123 3 (by generalize e_L d 123 = K; generalize e_E d = E; rfl)
set_option maxRecDepth 20000 in
theorem B123_79 {d : Nat} {I : Nat → Nat → Int32} {z : e_Z} {x1 x2 y0 : Int32}  : e_L d 123 79 [.ref 1, .int x1, .int x2] [.int y0] (mk I z) = (e_rI (e_E d 329 [.int y0] (mk I z)) (fun v σ => e_L d 123 82 [.ref 1, .int x1, .int x2] [.int v] σ) (e_H (e_L d 123) 123 79 [.ref 1, .int x1, .int x2])) := e_L_to hd123 1 (by generalize e_L d 123 = K; generalize e_E d = E; rfl)
set_option maxRecDepth 20000 in
theorem B123_82 {d : Nat} {I : Nat → Nat → Int32} {z : e_Z} {x1 x2 y0 : Int32}  : e_L d 123 82 [.ref 1, .int x1, .int x2] [.int y0] (mk I z) = (some (.inl (some (.int y0)), mk I z)) := e_L_to hd123 1 (by generalize e_L d 123 = K; generalize e_E d = E; rfl)
set_option maxRecDepth 20000 in
theorem B123_83 {d : Nat} {I : Nat → Nat → Int32} {z : e_Z} {x1 x2 : Int32}  : e_L d 123 83 [.ref 1, .int x1, .int x2] [] (mk I z) = (some (.inr 0, e_exc (mk I z))) := e_L_to hd123 1 (by generalize e_L d 123 = K; generalize e_E d = E; rfl)
def hd124 : List Nat := [0, 5, 44, 55, 56, 70, 71, 82, 83, 97, 98, 112, 113, 128, 129]
set_option maxRecDepth 20000 in
theorem B124_0 {d : Nat} {I : Nat → Nat → Int32} {z : e_Z} {x1 x2 : Int32}  : e_L d 124 0 [.ref 1, .int x1, .int x2] [] (mk I z) = (e_rV (e_E d 167 [.ref 1, .int x1] (mk I z)) (fun σ => e_L d 124 5 [.ref 1, .int x1, .int x2] [] σ) (e_H (e_L d 124) 124 2 [.ref 1, .int x1, .int x2])) := e_L_to hd124 3 (by generalize e_L d 124 = K; generalize e_E d = E; rfl)
set_option maxRecDepth 20000 in
theorem B124_5 {d : Nat} {I : Nat → Nat → Int32} {z : e_Z} {x1 x2 : Int32}  : e_L d 124 5 [.ref 1, .int x1, .int x2] [] (mk I z) = (e_L d 124 (e_sel [(0, 44), (1, 56), (2, 71), (3, 83), (4, 98), (5, 113)] 129 x2) [.ref 1, .int x1, .int x2] [] (mk I z)) := e_L_to hd124 1 (by generalize e_L d 124 = K; generalize e_E d = E; rfl)
set_option maxRecDepth 20000 in
theorem B124_44 {d : Nat} {I : Nat → Nat → Int32} {z : e_Z} {x1 x2 : Int32}  : e_L d 124 44 [.ref 1, .int x1, .int x2] [] (mk I z) = (e_rI (e_E d 169 [.ref (bd z.2.1.1 + 15), .int x1] (mk I z)) (fun v σ => e_L d 124 55 [.ref 1, .int x1, .int x2] [.int v] σ) (e_H (e_L d 124) 124 52 [.ref 1, .int x1, .int x2])) := by
  rcases z with ⟨J, ⟨_|_, rb, fb, tt⟩, cs, X⟩
  all_goals exact e_L_to hd124 5 (by generalize e_L d 124 = K; generalize e_E d = E; rfl)
set_option maxRecDepth 20000 in
theorem B124_55 {d : Nat} {I : Nat → Nat → Int32} {z : e_Z} {x1 x2 y0 : Int32}  : e_L d 124 55 [.ref 1, .int x1, .int x2] [.int y0] (mk I z) = (some (.inl (some (.int y0)), mk I z)) := e_L_to hd124 1 (by generalize e_L d 124 = K; generalize e_E d = E; rfl)
set_option maxRecDepth 20000 in
theorem B124_56 {d : Nat} {I : Nat → Nat → Int32} {z : e_Z} {x1 x2 : Int32}  : e_L d 124 56 [.ref 1, .int x1, .int x2] [] (mk I z) = (e_rI (e_E d 169 [.ref 54, .int x1] (mk I z)) (fun v σ => e_L d 124 70 [.ref 1, .int x1, .int x2] [.int v] σ) (e_H (e_L d 124) 124 67 [.ref 1, .int x1, .int x2])) := e_L_to hd124 6 (by generalize e_L d 124 = K; generalize e_E d = E; rfl)
set_option maxRecDepth 20000 in
theorem B124_70 {d : Nat} {I : Nat → Nat → Int32} {z : e_Z} {x1 x2 y0 : Int32}  : e_L d 124 70 [.ref 1, .int x1, .int x2] [.int y0] (mk I z) = (some (.inl (some (.int y0)), mk I z)) := e_L_to hd124 1 (by generalize e_L d 124 = K; generalize e_E d = E; rfl)
set_option maxRecDepth 20000 in
theorem B124_71 {d : Nat} {I : Nat → Nat → Int32} {z : e_Z} {x1 x2 : Int32}  : e_L d 124 71 [.ref 1, .int x1, .int x2] [] (mk I z) = (e_rI (e_E d 169 [.ref (bd z.2.1.1 + 17), .int x1] (mk I z)) (fun v σ => e_L d 124 82 [.ref 1, .int x1, .int x2] [.int v] σ) (e_H (e_L d 124) 124 79 [.ref 1, .int x1, .int x2])) := by
  rcases z with ⟨J, ⟨_|_, rb, fb, tt⟩, cs, X⟩
  all_goals exact e_L_to hd124 5 (by generalize e_L d 124 = K; generalize e_E d = E; rfl)
set_option maxRecDepth 20000 in
theorem B124_82 {d : Nat} {I : Nat → Nat → Int32} {z : e_Z} {x1 x2 y0 : Int32}  : e_L d 124 82 [.ref 1, .int x1, .int x2] [.int y0] (mk I z) = (some (.inl (some (.int y0)), mk I z)) := e_L_to hd124 1 (by generalize e_L d 124 = K; generalize e_E d = E; rfl)
set_option maxRecDepth 20000 in
theorem B124_83 {d : Nat} {I : Nat → Nat → Int32} {z : e_Z} {x1 x2 : Int32}  : e_L d 124 83 [.ref 1, .int x1, .int x2] [] (mk I z) = (e_rI (e_E d 169 [.ref 52, .int x1] (mk I z)) (fun v σ => e_L d 124 97 [.ref 1, .int x1, .int x2] [.int v] σ) (e_H (e_L d 124) 124 94 [.ref 1, .int x1, .int x2])) := e_L_to hd124 6 (by generalize e_L d 124 = K; generalize e_E d = E; rfl)
set_option maxRecDepth 20000 in
theorem B124_97 {d : Nat} {I : Nat → Nat → Int32} {z : e_Z} {x1 x2 y0 : Int32}  : e_L d 124 97 [.ref 1, .int x1, .int x2] [.int y0] (mk I z) = (some (.inl (some (.int y0)), mk I z)) := e_L_to hd124 1 (by generalize e_L d 124 = K; generalize e_E d = E; rfl)
set_option maxRecDepth 20000 in
theorem B124_98 {d : Nat} {I : Nat → Nat → Int32} {z : e_Z} {x1 x2 : Int32}  : e_L d 124 98 [.ref 1, .int x1, .int x2] [] (mk I z) = (e_rI (e_E d 169 [.ref 53, .int x1] (mk I z)) (fun v σ => e_L d 124 112 [.ref 1, .int x1, .int x2] [.int v] σ) (e_H (e_L d 124) 124 109 [.ref 1, .int x1, .int x2])) := e_L_to hd124 6 (by generalize e_L d 124 = K; generalize e_E d = E; rfl)
set_option maxRecDepth 20000 in
theorem B124_112 {d : Nat} {I : Nat → Nat → Int32} {z : e_Z} {x1 x2 y0 : Int32}  : e_L d 124 112 [.ref 1, .int x1, .int x2] [.int y0] (mk I z) = (some (.inl (some (.int y0)), mk I z)) := e_L_to hd124 1 (by generalize e_L d 124 = K; generalize e_E d = E; rfl)
set_option maxRecDepth 20000 in
theorem B124_113 {d : Nat} {I : Nat → Nat → Int32} {z : e_Z} {x1 x2 : Int32}  : e_L d 124 113 [.ref 1, .int x1, .int x2] [] (mk I z) = (e_rI (e_E d 56 [.ref 51, .ref (bd z.2.1.1), .int x1] (mk I z)) (fun v σ => e_L d 124 128 [.ref 1, .int x1, .int x2] [.int v] σ) (e_H (e_L d 124) 124 125 [.ref 1, .int x1, .int x2])) := e_L_to hd124 7 (by generalize e_L d 124 = K; generalize e_E d = E; rfl)
set_option maxRecDepth 20000 in
theorem B124_128 {d : Nat} {I : Nat → Nat → Int32} {z : e_Z} {x1 x2 y0 : Int32}  : e_L d 124 128 [.ref 1, .int x1, .int x2] [.int y0] (mk I z) = (some (.inl (some (.int y0)), mk I z)) := e_L_to hd124 1 (by generalize e_L d 124 = K; generalize e_E d = E; rfl)
set_option maxRecDepth 20000 in
theorem B124_129 {d : Nat} {I : Nat → Nat → Int32} {z : e_Z} {x1 x2 : Int32}  : e_L d 124 129 [.ref 1, .int x1, .int x2] [] (mk I z) = (some (.inr 0, e_exc (mk I z))) := e_L_to hd124 1 (by generalize e_L d 124 = K; generalize e_E d = E; rfl)
def hd125 : List Nat := [0, 5, 10, 26]
set_option maxRecDepth 20000 in
theorem B125_0 {d : Nat} {I : Nat → Nat → Int32} {z : e_Z} {x1 x2 : Int32}  : e_L d 125 0 [.ref 1, .int x1, .int x2] [] (mk I z) = (e_rV (e_E d 164 [.ref 1, .int x1] (mk I z)) (fun σ => e_L d 125 5 [.ref 1, .int x1, .int x2] [] σ) (e_H (e_L d 125) 125 2 [.ref 1, .int x1, .int x2])) := e_L_to hd125 3 (by generalize e_L d 125 = K; generalize e_E d = E; rfl)
set_option maxRecDepth 20000 in
theorem B125_5 {d : Nat} {I : Nat → Nat → Int32} {z : e_Z} {x1 x2 : Int32}  : e_L d 125 5 [.ref 1, .int x1, .int x2] [] (mk I z) = (e_rV (e_E d 167 [.ref 1, .int x2] (mk I z)) (fun σ => e_L d 125 10 [.ref 1, .int x1, .int x2] [] σ) (e_H (e_L d 125) 125 7 [.ref 1, .int x1, .int x2])) := e_L_to hd125 3 (by generalize e_L d 125 = K; generalize e_E d = E; rfl)
set_option maxRecDepth 20000 in
theorem B125_10 {d : Nat} {I : Nat → Nat → Int32} {z : e_Z} {x1 x2 : Int32}  : e_L d 125 10 [.ref 1, .int x1, .int x2] [] (mk I z) = (e_rI (e_E d 55 [.ref 51, .ref (bd z.2.1.1), .int x1, .int x2] (mk I z)) (fun v σ => e_L d 125 26 [.ref 1, .int x1, .int x2] [.int v] σ) (e_H (e_L d 125) 125 23 [.ref 1, .int x1, .int x2])) := e_L_to hd125 8 (by generalize e_L d 125 = K; generalize e_E d = E; rfl)
set_option maxRecDepth 20000 in
theorem B125_26 {d : Nat} {I : Nat → Nat → Int32} {z : e_Z} {x1 x2 y0 : Int32}  : e_L d 125 26 [.ref 1, .int x1, .int x2] [.int y0] (mk I z) = (some (.inl (some (.int y0)), mk I z)) := e_L_to hd125 1 (by generalize e_L d 125 = K; generalize e_E d = E; rfl)
def hd126 : List Nat := [0, 14]
set_option maxRecDepth 20000 in
theorem B126_0 {d : Nat} {I : Nat → Nat → Int32} {z : e_Z}  : e_L d 126 0 [.ref 1] [] (mk I z) = (e_rI (e_E d 51 [.ref 51, .ref (bd z.2.1.1)] (mk I z)) (fun v σ => e_L d 126 14 [.ref 1] [.int v] σ) (e_H (e_L d 126) 126 11 [.ref 1])) := e_L_to hd126 6 (by generalize e_L d 126 = K; generalize e_E d = E; rfl)
set_option maxRecDepth 20000 in
theorem B126_14 {d : Nat} {I : Nat → Nat → Int32} {z : e_Z} {y0 : Int32}  : e_L d 126 14 [.ref 1] [.int y0] (mk I z) = (some (.inl (some (.int y0)), mk I z)) := e_L_to hd126 1 (by generalize e_L d 126 = K; generalize e_E d = E; rfl)
def hd127 : List Nat := [0, 28, 33, 42, 60, 68, 85]
set_option maxRecDepth 20000 in
theorem B127_0 {d : Nat} {I : Nat → Nat → Int32} {z : e_Z} {x1 : Int32}  : e_L d 127 0 [.ref 1, .int x1] [] (mk I z) = (if e_cc .lt x1 (e_n 1) = true then (e_L d 127 28 [.ref 1, .int x1] [] (mk I z)) else (if e_cc .gt x1 (e_n 20) = true then (e_L d 127 28 [.ref 1, .int x1] [] (mk I z)) else (if e_cc .le ((I 51 0) + x1) (e_n 60) = true then (e_rV (e_E d 97 [.ref 50] (mk I z)) (fun σ => e_L d 127 42 [.ref 1, .int x1] [] σ) (e_H (e_L d 127) 127 39 [.ref 1, .int x1])) else (e_L d 127 28 [.ref 1, .int x1] [] (mk I z))))) := e_L_to hd127 17 (by generalize e_L d 127 = K; generalize e_E d = E; rfl)
set_option maxRecDepth 20000 in
theorem B127_28 {d : Nat} {I : Nat → Nat → Int32} {z : e_Z} {x1 : Int32}  : e_L d 127 28 [.ref 1, .int x1] [] (mk I z) = (e_rV (e_E d 120 [.ref 1, .int (e_n 1)] (mk I z)) (fun σ => e_L d 127 33 [.ref 1, .int x1] [] σ) (e_H (e_L d 127) 127 30 [.ref 1, .int x1])) := e_L_to hd127 3 (by generalize e_L d 127 = K; generalize e_E d = E; rfl)
set_option maxRecDepth 20000 in
theorem B127_33 {d : Nat} {I : Nat → Nat → Int32} {z : e_Z} {x1 : Int32}  : e_L d 127 33 [.ref 1, .int x1] [] (mk I z) = (some (.inl (some (.int (e_n (-1)))), mk I z)) := e_L_to hd127 2 (by generalize e_L d 127 = K; generalize e_E d = E; rfl)
set_option maxRecDepth 20000 in
theorem B127_42 {d : Nat} {I : Nat → Nat → Int32} {z : e_Z} {x1 : Int32}  : e_L d 127 42 [.ref 1, .int x1] [] (mk I z) = (e_rV (e_E d 12 [.ref 470, .ref (bd z.2.1.1), .ref 51] (mk I z)) (fun σ => e_L d 127 60 [.ref 1, .int x1] [] σ) (e_H (e_L d 127) 127 57 [.ref 1, .int x1])) := e_L_to hd127 8 (by generalize e_L d 127 = K; generalize e_E d = E; rfl)
set_option maxRecDepth 20000 in
theorem B127_60 {d : Nat} {I : Nat → Nat → Int32} {z : e_Z} {x1 : Int32}  : e_L d 127 60 [.ref 1, .int x1] [] (mk I z) = (e_rV (e_E d 13 [.ref 470, .int x1] (mk I z)) (fun σ => e_L d 127 68 [.ref 1, .int x1] [] σ) (e_H (e_L d 127) 127 65 [.ref 1, .int x1])) := e_L_to hd127 4 (by generalize e_L d 127 = K; generalize e_E d = E; rfl)
set_option maxRecDepth 20000 in
theorem B127_68 {d : Nat} {I : Nat → Nat → Int32} {z : e_Z} {x1 : Int32}  : e_L d 127 68 [.ref 1, .int x1] [] (mk I z) = (e_rV (e_E d 47 [.ref 51, .ref 471] (mk I z)) (fun σ => e_L d 127 85 [.ref 1, .int x1] [] σ) (e_H (e_L d 127) 127 82 [.ref 1, .int x1])) := e_L_to hd127 7 (by generalize e_L d 127 = K; generalize e_E d = E; rfl)
set_option maxRecDepth 20000 in
theorem B127_85 {d : Nat} {I : Nat → Nat → Int32} {z : e_Z} {x1 : Int32}  : e_L d 127 85 [.ref 1, .int x1] [] (mk I z) = (some (.inl (some (.int (I 51 0))), mk I z)) := e_L_to hd127 5 (by generalize e_L d 127 = K; generalize e_E d = E; rfl)
def hd128 : List Nat := [0, 5, 10, 34, 37, 48, 73, 76, 81, 90, 100]
set_option maxRecDepth 20000 in
theorem B128_0 {d : Nat} {I : Nat → Nat → Int32} {z : e_Z} {x1 x2 : Int32}  : e_L d 128 0 [.ref 1, .int x1, .int x2, .null, .null] [] (mk I z) = (e_rV (e_E d 167 [.ref 1, .int x1] (mk I z)) (fun σ => e_L d 128 5 [.ref 1, .int x1, .int x2, .null, .null] [] σ) (e_H (e_L d 128) 128 2 [.ref 1, .int x1, .int x2, .null, .null])) := e_L_to hd128 3 (by generalize e_L d 128 = K; generalize e_E d = E; rfl)
set_option maxRecDepth 20000 in
theorem B128_5 {d : Nat} {I : Nat → Nat → Int32} {z : e_Z} {x1 x2 : Int32}  : e_L d 128 5 [.ref 1, .int x1, .int x2, .null, .null] [] (mk I z) = (e_rV (e_E d 166 [.ref 1, .int x2] (mk I z)) (fun σ => e_L d 128 10 [.ref 1, .int x1, .int x2, .null, .null] [] σ) (e_H (e_L d 128) 128 7 [.ref 1, .int x1, .int x2, .null, .null])) := e_L_to hd128 3 (by generalize e_L d 128 = K; generalize e_E d = E; rfl)
set_option maxRecDepth 20000 in
theorem B128_10 {d : Nat} {I : Nat → Nat → Int32} {z : e_Z} {x1 x2 : Int32}  : e_L d 128 10 [.ref 1, .int x1, .int x2, .null, .null] [] (mk I z) = (e_rI (e_E d 169 [.ref 54, .int x1] (mk I z)) (fun v σ => e_L d 128 34 [.ref 1, .int x1, .int x2, .ref 51, .null] [.int v, .int x2, .ref (bd z.2.1.1 + 1)] σ) (e_H (e_L d 128) 128 31 [.ref 1, .int x1, .int x2, .ref 51, .null])) := by
  rcases z with ⟨J, ⟨_|_, rb, fb, tt⟩, cs, X⟩
  all_goals exact e_L_to hd128 12 (by generalize e_L d 128 = K; generalize e_E d = E; rfl)
set_option maxRecDepth 20000 in
theorem B128_34 {d : Nat} {I : Nat → Nat → Int32} {z : e_Z} {x1 x2 y1 y2 : Int32}  : e_L d 128 34 [.ref 1, .int x1, .int x2, .ref 51, .null] [.int y2, .int y1, .ref (bd z.2.1.1 + 1)] (mk I z) = (e_rI (e_E d 31 [.ref (bd z.2.1.1 + 1), .int y1, .int y2] (mk I z)) (fun v σ => e_L d 128 37 [.ref 1, .int x1, .int x2, .ref 51, .null] [.int v] σ) (e_H (e_L d 128) 128 34 [.ref 1, .int x1, .int x2, .ref 51, .null])) := by
  rcases z with ⟨J, ⟨_|_, rb, fb, tt⟩, cs, X⟩
  all_goals exact e_L_to hd128 1 (by generalize e_L d 128 = K; generalize e_E d = E; rfl)
set_option maxRecDepth 20000 in
theorem B128_37 {d : Nat} {I : Nat → Nat → Int32} {z : e_Z} {x1 x2 y0 : Int32}  : e_L d 128 37 [.ref 1, .int x1, .int x2, .ref 51, .null] [.int y0] (mk I z) = (e_rI (e_E d 50 [.ref 51, .ref (bd z.2.1.1), .int x1] (mk I z)) (fun v σ => e_L d 128 48 [.ref 1, .int x1, .int x2, .ref 51, .int y0] [.int v] σ) (e_H (e_L d 128) 128 45 [.ref 1, .int x1, .int x2, .ref 51, .int y0])) := e_L_to hd128 6 (by generalize e_L d 128 = K; generalize e_E d = E; rfl)
set_option maxRecDepth 20000 in
theorem B128_48 {d : Nat} {I : Nat → Nat → Int32} {z : e_Z} {x1 x2 x4 y0 : Int32}  : e_L d 128 48 [.ref 1, .int x1, .int x2, .ref 51, .int x4] [.int y0] (mk I z) = (if e_cc .ne y0 0 = true then (e_L d 128 76 [.ref 1, .int x1, .int x2, .ref 51, .int x4] [] (mk I z)) else (if e_cc .eq x4 (e_n (-1)) = true then (e_L d 128 76 [.ref 1, .int x1, .int x2, .ref 51, .int x4] [] (mk I z)) else (e_rI (e_E d 30 [.ref (bd z.2.1.1 + 1), .int x2, .int (I 51 0), .int (e_n (-1))] (mk I z)) (fun v σ => e_L d 128 73 [.ref 1, .int x1, .int x2, .ref 51, .int x4] [.int v] σ) (e_H (e_L d 128) 128 70 [.ref 1, .int x1, .int x2, .ref 51, .int x4])))) := by
  rcases z with ⟨J, ⟨_|_, rb, fb, tt⟩, cs, X⟩
  all_goals exact e_L_to hd128 12 (by generalize e_L d 128 = K; generalize e_E d = E; rfl)
set_option maxRecDepth 20000 in
theorem B128_73 {d : Nat} {I : Nat → Nat → Int32} {z : e_Z} {x1 x2 x4 y0 : Int32}  : e_L d 128 73 [.ref 1, .int x1, .int x2, .ref 51, .int x4] [.int y0] (mk I z) = (if e_cc .ne y0 0 = true then (e_rV (e_E d 97 [.ref 50] (mk I z)) (fun σ => e_L d 128 90 [.ref 1, .int x1, .int x2, .ref 51, .int x4] [] σ) (e_H (e_L d 128) 128 87 [.ref 1, .int x1, .int x2, .ref 51, .int x4])) else (e_L d 128 76 [.ref 1, .int x1, .int x2, .ref 51, .int x4] [] (mk I z))) := e_L_to hd128 4 (by generalize e_L d 128 = K; generalize e_E d = E; rfl)
set_option maxRecDepth 20000 in
theorem B128_76 {d : Nat} {I : Nat → Nat → Int32} {z : e_Z} {x1 x2 x4 : Int32}  : e_L d 128 76 [.ref 1, .int x1, .int x2, .ref 51, .int x4] [] (mk I z) = (e_rV (e_E d 120 [.ref 1, .int (e_n 1)] (mk I z)) (fun σ => e_L d 128 81 [.ref 1, .int x1, .int x2, .ref 51, .int x4] [] σ) (e_H (e_L d 128) 128 78 [.ref 1, .int x1, .int x2, .ref 51, .int x4])) := e_L_to hd128 3 (by generalize e_L d 128 = K; generalize e_E d = E; rfl)
set_option maxRecDepth 20000 in
theorem B128_81 {d : Nat} {I : Nat → Nat → Int32} {z : e_Z} {x1 x2 x4 : Int32}  : e_L d 128 81 [.ref 1, .int x1, .int x2, .ref 51, .int x4] [] (mk I z) = (some (.inl (some (.int (e_n (-1)))), mk I z)) := e_L_to hd128 2 (by generalize e_L d 128 = K; generalize e_E d = E; rfl)
set_option maxRecDepth 20000 in
theorem B128_90 {d : Nat} {I : Nat → Nat → Int32} {z : e_Z} {x1 x2 x4 : Int32}  : e_L d 128 90 [.ref 1, .int x1, .int x2, .ref 51, .int x4] [] (mk I z) = (e_rV (e_E d 170 [.ref 54, .int x1, .int x4] (mk I z)) (fun σ => e_L d 128 100 [.ref 1, .int x1, .int x2, .ref 51, .int x4] [] σ) (e_H (e_L d 128) 128 97 [.ref 1, .int x1, .int x2, .ref 51, .int x4])) := e_L_to hd128 5 (by generalize e_L d 128 = K; generalize e_E d = E; rfl)
set_option maxRecDepth 20000 in
theorem B128_100 {d : Nat} {I : Nat → Nat → Int32} {z : e_Z} {x1 x2 x4 : Int32}  : e_L d 128 100 [.ref 1, .int x1, .int x2, .ref 51, .int x4] [] (mk I z) = (some (.inl (some (.int x4)), mk I z)) := e_L_to hd128 2 (by generalize e_L d 128 = K; generalize e_E d = E; rfl)
def hd129 : List Nat := [0, 5, 19, 27, 36, 49]
set_option maxRecDepth 20000 in
theorem B129_0 {d : Nat} {I : Nat → Nat → Int32} {z : e_Z} {x1 : Int32}  : e_L d 129 0 [.ref 1, .int x1] [] (mk I z) = (e_rV (e_E d 167 [.ref 1, .int x1] (mk I z)) (fun σ => e_L d 129 5 [.ref 1, .int x1] [] σ) (e_H (e_L d 129) 129 2 [.ref 1, .int x1])) := e_L_to hd129 3 (by generalize e_L d 129 = K; generalize e_E d = E; rfl)
set_option maxRecDepth 20000 in
theorem B129_5 {d : Nat} {I : Nat → Nat → Int32} {z : e_Z} {x1 : Int32}  : e_L d 129 5 [.ref 1, .int x1] [] (mk I z) = (e_rI (e_E d 174 [.int (I 51 1), .int x1] (mk I z)) (fun v σ => e_L d 129 19 [.ref 1, .int x1] [.int v] σ) (e_H (e_L d 129) 129 16 [.ref 1, .int x1])) := e_L_to hd129 6 (by generalize e_L d 129 = K; generalize e_E d = E; rfl)
set_option maxRecDepth 20000 in
theorem B129_19 {d : Nat} {I : Nat → Nat → Int32} {z : e_Z} {x1 y0 : Int32}  : e_L d 129 19 [.ref 1, .int x1] [.int y0] (mk I z) = (if e_cc .eq y0 0 = true then (e_rV (e_E d 97 [.ref 50] (mk I z)) (fun σ => e_L d 129 36 [.ref 1, .int x1] [] σ) (e_H (e_L d 129) 129 33 [.ref 1, .int x1])) else (e_rV (e_E d 120 [.ref 1, .int (e_n 1)] (mk I z)) (fun σ => e_L d 129 27 [.ref 1, .int x1] [] σ) (e_H (e_L d 129) 129 24 [.ref 1, .int x1]))) := e_L_to hd129 4 (by generalize e_L d 129 = K; generalize e_E d = E; rfl)
set_option maxRecDepth 20000 in
theorem B129_27 {d : Nat} {I : Nat → Nat → Int32} {z : e_Z} {x1 : Int32}  : e_L d 129 27 [.ref 1, .int x1] [] (mk I z) = (if e_n 0 = 0 ∨ e_n 0 = 1 then some (.inl (some (.int (e_n 0))), mk I z) else none) := e_L_to hd129 2 (by generalize e_L d 129 = K; generalize e_E d = E; rfl)
set_option maxRecDepth 20000 in
theorem B129_36 {d : Nat} {I : Nat → Nat → Int32} {z : e_Z} {x1 : Int32}  : e_L d 129 36 [.ref 1, .int x1] [] (mk I z) = (e_rV (e_E d 53 [.ref 51, .int x1, .int (e_n (-2))] (mk I z)) (fun σ => e_L d 129 49 [.ref 1, .int x1] [] σ) (e_H (e_L d 129) 129 46 [.ref 1, .int x1])) := e_L_to hd129 6 (by generalize e_L d 129 = K; generalize e_E d = E; rfl)
set_option maxRecDepth 20000 in
theorem B129_49 {d : Nat} {I : Nat → Nat → Int32} {z : e_Z} {x1 : Int32}  : e_L d 129 49 [.ref 1, .int x1] [] (mk I z) = (if e_n 1 = 0 ∨ e_n 1 = 1 then some (.inl (some (.int (e_n 1))), mk I z) else none) := e_L_to hd129 2 (by generalize e_L d 129 = K; generalize e_E d = E; rfl)
def hd130 : List Nat := [0, 5, 21, 32, 35, 40, 49, 57, 63]
set_option maxRecDepth 20000 in
theorem B130_0 {d : Nat} {I : Nat → Nat → Int32} {z : e_Z} {x1 : Int32}  : e_L d 130 0 [.ref 1, .int x1, .null, .null] [] (mk I z) = (e_rV (e_E d 167 [.ref 1, .int x1] (mk I z)) (fun σ => e_L d 130 5 [.ref 1, .int x1, .null, .null] [] σ) (e_H (e_L d 130) 130 2 [.ref 1, .int x1, .null, .null])) := e_L_to hd130 3 (by generalize e_L d 130 = K; generalize e_E d = E; rfl)
set_option maxRecDepth 20000 in
theorem B130_5 {d : Nat} {I : Nat → Nat → Int32} {z : e_Z} {x1 : Int32}  : e_L d 130 5 [.ref 1, .int x1, .null, .null] [] (mk I z) = (e_rI (e_E d 174 [.int (I 51 1), .int x1] (mk I z)) (fun v σ => e_L d 130 21 [.ref 1, .int x1, .ref 51, .null] [.int v] σ) (e_H (e_L d 130) 130 18 [.ref 1, .int x1, .ref 51, .null])) := e_L_to hd130 8 (by generalize e_L d 130 = K; generalize e_E d = E; rfl)
set_option maxRecDepth 20000 in
theorem B130_21 {d : Nat} {I : Nat → Nat → Int32} {z : e_Z} {x1 y0 : Int32}  : e_L d 130 21 [.ref 1, .int x1, .ref 51, .null] [.int y0] (mk I z) = (if e_cc .eq y0 0 = true then (e_L d 130 35 [.ref 1, .int x1, .ref 51, .null] [] (mk I z)) else (e_rI (e_E d 174 [.int (I 51 2), .int x1] (mk I z)) (fun v σ => e_L d 130 32 [.ref 1, .int x1, .ref 51, .null] [.int v] σ) (e_H (e_L d 130) 130 29 [.ref 1, .int x1, .ref 51, .null]))) := e_L_to hd130 5 (by generalize e_L d 130 = K; generalize e_E d = E; rfl)
set_option maxRecDepth 20000 in
theorem B130_32 {d : Nat} {I : Nat → Nat → Int32} {z : e_Z} {x1 y0 : Int32}  : e_L d 130 32 [.ref 1, .int x1, .ref 51, .null] [.int y0] (mk I z) = (if e_cc .eq y0 0 = true then (e_rV (e_E d 97 [.ref 50] (mk I z)) (fun σ => e_L d 130 49 [.ref 1, .int x1, .ref 51, .null] [] σ) (e_H (e_L d 130) 130 46 [.ref 1, .int x1, .ref 51, .null])) else (e_L d 130 35 [.ref 1, .int x1, .ref 51, .null] [] (mk I z))) := e_L_to hd130 4 (by generalize e_L d 130 = K; generalize e_E d = E; rfl)
set_option maxRecDepth 20000 in
theorem B130_35 {d : Nat} {I : Nat → Nat → Int32} {z : e_Z} {x1 : Int32}  : e_L d 130 35 [.ref 1, .int x1, .ref 51, .null] [] (mk I z) = (e_rV (e_E d 120 [.ref 1, .int (e_n 1)] (mk I z)) (fun σ => e_L d 130 40 [.ref 1, .int x1, .ref 51, .null] [] σ) (e_H (e_L d 130) 130 37 [.ref 1, .int x1, .ref 51, .null])) := e_L_to hd130 3 (by generalize e_L d 130 = K; generalize e_E d = E; rfl)
set_option maxRecDepth 20000 in
theorem B130_40 {d : Nat} {I : Nat → Nat → Int32} {z : e_Z} {x1 : Int32}  : e_L d 130 40 [.ref 1, .int x1, .ref 51, .null] [] (mk I z) = (some (.inl (some (.int (e_n (-1)))), mk I z)) := e_L_to hd130 2 (by generalize e_L d 130 = K; generalize e_E d = E; rfl)
set_option maxRecDepth 20000 in
theorem B130_49 {d : Nat} {I : Nat → Nat → Int32} {z : e_Z} {x1 : Int32}  : e_L d 130 49 [.ref 1, .int x1, .ref 51, .null] [] (mk I z) = (e_rI (e_E d 169 [.ref 53, .int x1] (mk I z)) (fun v σ => e_L d 130 57 [.ref 1, .int x1, .ref 51, .null] [.int v] σ) (e_H (e_L d 130) 130 54 [.ref 1, .int x1, .ref 51, .null])) := e_L_to hd130 4 (by generalize e_L d 130 = K; generalize e_E d = E; rfl)
set_option maxRecDepth 20000 in
theorem B130_57 {d : Nat} {I : Nat → Nat → Int32} {z : e_Z} {x1 y0 : Int32}  : e_L d 130 57 [.ref 1, .int x1, .ref 51, .null] [.int y0] (mk I z) = (e_rV (e_E d 54 [.ref 51, .int x1] (mk I z)) (fun σ => e_L d 130 63 [.ref 1, .int x1, .ref 51, .int y0] [] σ) (e_H (e_L d 130) 130 60 [.ref 1, .int x1, .ref 51, .int y0])) := e_L_to hd130 4 (by generalize e_L d 130 = K; generalize e_E d = E; rfl)
set_option maxRecDepth 20000 in
theorem B130_63 {d : Nat} {I : Nat → Nat → Int32} {z : e_Z} {x1 x3 : Int32}  : e_L d 130 63 [.ref 1, .int x1, .ref 51, .int x3] [] (mk I z) = (some (.inl (some (.int x3)), mk I z)) := e_L_to hd130 2 (by generalize e_L d 130 = K; generalize e_E d = E; rfl)
def hd131 : List Nat := [0, 19, 28]
set_option maxRecDepth 20000 in
theorem B131_0 {d : Nat} {I : Nat → Nat → Int32} {z : e_Z} {x1 : Int32}  : e_L d 131 0 [.ref 1, .int x1] [] (mk I z) = (if e_cc .ne (I 51 4) x1 = true then (e_rV (e_E d 97 [.ref 50] (mk I z)) (fun σ => e_L d 131 28 [.ref 1, .int x1] [] σ) (e_H (e_L d 131) 131 25 [.ref 1, .int x1])) else (e_rV (e_E d 120 [.ref 1, .int (e_n 1)] (mk I z)) (fun σ => e_L d 131 19 [.ref 1, .int x1] [] σ) (e_H (e_L d 131) 131 16 [.ref 1, .int x1]))) := e_L_to hd131 9 (by generalize e_L d 131 = K; generalize e_E d = E; rfl)
set_option maxRecDepth 20000 in
theorem B131_19 {d : Nat} {I : Nat → Nat → Int32} {z : e_Z} {x1 : Int32}  : e_L d 131 19 [.ref 1, .int x1] [] (mk I z) = (if e_n 0 = 0 ∨ e_n 0 = 1 then some (.inl (some (.int (e_n 0))), mk I z) else none) := e_L_to hd131 2 (by generalize e_L d 131 = K; generalize e_E d = E; rfl)
set_option maxRecDepth 20000 in
theorem B131_28 {d : Nat} {I : Nat → Nat → Int32} {z : e_Z} {x1 : Int32}  : e_L d 131 28 [.ref 1, .int x1] [] (mk I z) = (if 6 = 6 ∧ (x1 = 0 ∨ x1 = 1) then (if e_n 1 = 0 ∨ e_n 1 = 1 then some (.inl (some (.int (e_n 1))), mk (e_u I 51 4 x1) z) else none) else none) := e_L_to hd131 7 (by generalize e_L d 131 = K; generalize e_E d = E; rfl)
def hd132 : List Nat := [0, 19]
set_option maxRecDepth 20000 in
theorem B132_0 {d : Nat} {I : Nat → Nat → Int32} {z : e_Z}  : e_L d 132 0 [.ref 1] [] (mk I z) = (if e_cc .ne (I 50 3) 0 = true then (e_rV (e_E d 98 [.ref 50] (mk I z)) (fun σ => e_L d 132 19 [.ref 1] [] σ) (e_H (e_L d 132) 132 16 [.ref 1])) else (some (.inl (some (.int (e_n (-1)))), mk I z))) := e_L_to hd132 7 (by generalize e_L d 132 = K; generalize e_E d = E; rfl)
set_option maxRecDepth 20000 in
theorem B132_19 {d : Nat} {I : Nat → Nat → Int32} {z : e_Z}  : e_L d 132 19 [.ref 1] [] (mk I z) = (some (.inl (some (.int (I 50 3))), mk I z)) := e_L_to hd132 4 (by generalize e_L d 132 = K; generalize e_E d = E; rfl)
def hd133 : List Nat := [0, 11]
set_option maxRecDepth 20000 in
theorem B133_0 {d : Nat} {I : Nat → Nat → Int32} {z : e_Z}  : e_L d 133 0 [.ref 1] [] (mk I z) = (e_rV (e_E d 95 [.ref 260, .ref 50] (mk I z)) (fun σ => e_L d 133 11 [.ref 1] [] σ) (e_H (e_L d 133) 133 8 [.ref 1])) := e_L_to hd133 5 (by generalize e_L d 133 = K; generalize e_E d = E; rfl)
set_option maxRecDepth 20000 in
theorem B133_11 {d : Nat} {I : Nat → Nat → Int32} {z : e_Z}  : e_L d 133 11 [.ref 1] [] (mk I z) = (if 11 = 11 ∧ (e_n 1 = 0 ∨ e_n 1 = 1) then (some (.inl none, mk (e_u I 1 9 (e_n 1)) z)) else none) := e_L_to hd133 4 (by generalize e_L d 133 = K; generalize e_E d = E; rfl)
def hd134 : List Nat := [0, 20]
set_option maxRecDepth 20000 in
theorem B134_0 {d : Nat} {I : Nat → Nat → Int32} {z : e_Z}  : e_L d 134 0 [.ref 1] [] (mk I z) = (if e_cc .ne (I 1 9) 0 = true then (e_rV (e_E d 95 [.ref 50, .ref 260] (mk I z)) (fun σ => e_L d 134 20 [.ref 1] [] σ) (e_H (e_L d 134) 134 17 [.ref 1])) else (if e_n 0 = 0 ∨ e_n 0 = 1 then some (.inl (some (.int (e_n 0))), mk I z) else none)) := e_L_to hd134 8 (by generalize e_L d 134 = K; generalize e_E d = E; rfl)
set_option maxRecDepth 20000 in
theorem B134_20 {d : Nat} {I : Nat → Nat → Int32} {z : e_Z}  : e_L d 134 20 [.ref 1] [] (mk I z) = (if e_n 1 = 0 ∨ e_n 1 = 1 then some (.inl (some (.int (e_n 1))), mk I z) else none) := e_L_to hd134 2 (by generalize e_L d 134 = K; generalize e_E d = E; rfl)
def hd135 : List Nat := [0, 18, 27]
set_option maxRecDepth 20000 in
theorem B135_0 {d : Nat} {I : Nat → Nat → Int32} {z : e_Z}  : e_L d 135 0 [.ref 1] [] (mk I z) = (e_rV (e_E d 12 [.ref 470, .ref (bd z.2.1.1), .ref 51] (mk I z)) (fun σ => e_L d 135 18 [.ref 1] [] σ) (e_H (e_L d 135) 135 15 [.ref 1])) := e_L_to hd135 8 (by generalize e_L d 135 = K; generalize e_E d = E; rfl)
set_option maxRecDepth 20000 in
theorem B135_18 {d : Nat} {I : Nat → Nat → Int32} {z : e_Z}  : e_L d 135 18 [.ref 1] [] (mk I z) = (e_rV (e_E d 13 [.ref 470, .int (e_n 30)] (mk I z)) (fun σ => e_L d 135 27 [.ref 1] [] σ) (e_H (e_L d 135) 135 24 [.ref 1])) := e_L_to hd135 4 (by generalize e_L d 135 = K; generalize e_E d = E; rfl)
set_option maxRecDepth 20000 in
theorem B135_27 {d : Nat} {I : Nat → Nat → Int32} {z : e_Z}  : e_L d 135 27 [.ref 1] [] (mk I z) = (some (.inl none, mk I z)) := e_L_to hd135 1 (by generalize e_L d 135 = K; generalize e_E d = E; rfl)
def hd136 : List Nat := [0, 14, 31, 50, 59, 73]
set_option maxRecDepth 20000 in
theorem B136_0 {d : Nat} {I : Nat → Nat → Int32} {z : e_Z} {x1 : Int32}  : e_L d 136 0 [.ref 1, .int x1] [] (mk I z) = (e_rI (e_E d 174 [.int (I 51 1), .int x1] (mk I z)) (fun v σ => e_L d 136 14 [.ref 1, .int x1] [.int v] σ) (e_H (e_L d 136) 136 11 [.ref 1, .int x1])) := e_L_to hd136 6 (by generalize e_L d 136 = K; generalize e_E d = E; rfl)
set_option maxRecDepth 20000 in
theorem B136_14 {d : Nat} {I : Nat → Nat → Int32} {z : e_Z} {x1 y0 : Int32}  : e_L d 136 14 [.ref 1, .int x1] [.int y0] (mk I z) = (if e_cc .eq y0 0 = true then (e_rV (e_E d 12 [.ref 470, .ref (bd z.2.1.1), .ref 51] (mk I z)) (fun σ => e_L d 136 50 [.ref 1, .int x1] [] σ) (e_H (e_L d 136) 136 47 [.ref 1, .int x1])) else (e_rI (e_E d 169 [.ref 52, .int x1] (mk I z)) (fun v σ => e_L d 136 31 [.ref 1, .int x1] [.int v] σ) (e_H (e_L d 136) 136 28 [.ref 1, .int x1]))) := e_L_to hd136 9 (by generalize e_L d 136 = K; generalize e_E d = E; rfl)
set_option maxRecDepth 20000 in
theorem B136_31 {d : Nat} {I : Nat → Nat → Int32} {z : e_Z} {x1 y0 : Int32}  : e_L d 136 31 [.ref 1, .int x1] [.int y0] (mk I z) = (some (.inl (some (.int y0)), mk I z)) := e_L_to hd136 1 (by generalize e_L d 136 = K; generalize e_E d = E; rfl)
set_option maxRecDepth 20000 in
theorem B136_50 {d : Nat} {I : Nat → Nat → Int32} {z : e_Z} {x1 : Int32}  : e_L d 136 50 [.ref 1, .int x1] [] (mk I z) = (e_rV (e_E d 13 [.ref 470, .int (e_n 30)] (mk I z)) (fun σ => e_L d 136 59 [.ref 1, .int x1] [] σ) (e_H (e_L d 136) 136 56 [.ref 1, .int x1])) := e_L_to hd136 4 (by generalize e_L d 136 = K; generalize e_E d = E; rfl)
set_option maxRecDepth 20000 in
theorem B136_59 {d : Nat} {I : Nat → Nat → Int32} {z : e_Z} {x1 : Int32}  : e_L d 136 59 [.ref 1, .int x1] [] (mk I z) = (e_rI (e_E d 169 [.ref 472, .int x1] (mk I z)) (fun v σ => e_L d 136 73 [.ref 1, .int x1] [.int v] σ) (e_H (e_L d 136) 136 70 [.ref 1, .int x1])) := e_L_to hd136 6 (by generalize e_L d 136 = K; generalize e_E d = E; rfl)
set_option maxRecDepth 20000 in
theorem B136_73 {d : Nat} {I : Nat → Nat → Int32} {z : e_Z} {x1 y0 : Int32}  : e_L d 136 73 [.ref 1, .int x1] [.int y0] (mk I z) = (some (.inl (some (.int y0)), mk I z)) := e_L_to hd136 1 (by generalize e_L d 136 = K; generalize e_E d = E; rfl)
def hd137 : List Nat := [0, 5, 10, 14, 32, 49]
set_option maxRecDepth 20000 in
theorem B137_0 {d : Nat} {I : Nat → Nat → Int32} {z : e_Z} {x1 x2 : Int32}  : e_L d 137 0 [.ref 1, .int x1, .int x2] [] (mk I z) = (e_rV (e_E d 167 [.ref 1, .int x1] (mk I z)) (fun σ => e_L d 137 5 [.ref 1, .int x1, .int x2] [] σ) (e_H (e_L d 137) 137 2 [.ref 1, .int x1, .int x2])) := e_L_to hd137 3 (by generalize e_L d 137 = K; generalize e_E d = E; rfl)
set_option maxRecDepth 20000 in
theorem B137_5 {d : Nat} {I : Nat → Nat → Int32} {z : e_Z} {x1 x2 : Int32}  : e_L d 137 5 [.ref 1, .int x1, .int x2] [] (mk I z) = (e_rV (e_E d 168 [.int x2, .int (e_n 2)] (mk I z)) (fun σ => e_L d 137 10 [.ref 1, .int x1, .int x2] [] σ) (e_H (e_L d 137) 137 7 [.ref 1, .int x1, .int x2])) := e_L_to hd137 3 (by generalize e_L d 137 = K; generalize e_E d = E; rfl)
set_option maxRecDepth 20000 in
theorem B137_10 {d : Nat} {I : Nat → Nat → Int32} {z : e_Z} {x1 x2 : Int32}  : e_L d 137 10 [.ref 1, .int x1, .int x2] [] (mk I z) = (e_rV (e_E d 135 [.ref 1] (mk I z)) (fun σ => e_L d 137 14 [.ref 1, .int x1, .int x2] [] σ) (e_H (e_L d 137) 137 11 [.ref 1, .int x1, .int x2])) := e_L_to hd137 2 (by generalize e_L d 137 = K; generalize e_E d = E; rfl)
set_option maxRecDepth 20000 in
theorem B137_14 {d : Nat} {I : Nat → Nat → Int32} {z : e_Z} {x1 x2 : Int32}  : e_L d 137 14 [.ref 1, .int x1, .int x2] [] (mk I z) = (if e_cc .ne x2 0 = true then (e_rI (e_E d 169 [.ref 473, .int x1] (mk I z)) (fun v σ => e_L d 137 49 [.ref 1, .int x1, .int x2] [.int v] σ) (e_H (e_L d 137) 137 46 [.ref 1, .int x1, .int x2])) else (e_rI (e_E d 169 [.ref 472, .int x1] (mk I z)) (fun v σ => e_L d 137 32 [.ref 1, .int x1, .int x2] [.int v] σ) (e_H (e_L d 137) 137 29 [.ref 1, .int x1, .int x2]))) := e_L_to hd137 8 (by generalize e_L d 137 = K; generalize e_E d = E; rfl)
set_option maxRecDepth 20000 in
theorem B137_32 {d : Nat} {I : Nat → Nat → Int32} {z : e_Z} {x1 x2 y0 : Int32}  : e_L d 137 32 [.ref 1, .int x1, .int x2] [.int y0] (mk I z) = (e_L d 137 49 [.ref 1, .int x1, .int x2] [.int y0] (mk I z)) := e_L_to hd137 1 (by generalize e_L d 137 = K; generalize e_E d = E; rfl)
set_option maxRecDepth 20000 in
theorem B137_49 {d : Nat} {I : Nat → Nat → Int32} {z : e_Z} {x1 x2 y0 : Int32}  : e_L d 137 49 [.ref 1, .int x1, .int x2] [.int y0] (mk I z) = (some (.inl (some (.int y0)), mk I z)) := e_L_to hd137 1 (by generalize e_L d 137 = K; generalize e_E d = E; rfl)
def hd138 : List Nat := [0, 5, 9, 20]
set_option maxRecDepth 20000 in
theorem B138_0 {d : Nat} {I : Nat → Nat → Int32} {z : e_Z} {x1 : Int32}  : e_L d 138 0 [.ref 1, .int x1] [] (mk I z) = (e_rV (e_E d 167 [.ref 1, .int x1] (mk I z)) (fun σ => e_L d 138 5 [.ref 1, .int x1] [] σ) (e_H (e_L d 138) 138 2 [.ref 1, .int x1])) := e_L_to hd138 3 (by generalize e_L d 138 = K; generalize e_E d = E; rfl)
set_option maxRecDepth 20000 in
theorem B138_5 {d : Nat} {I : Nat → Nat → Int32} {z : e_Z} {x1 : Int32}  : e_L d 138 5 [.ref 1, .int x1] [] (mk I z) = (e_rV (e_E d 135 [.ref 1] (mk I z)) (fun σ => e_L d 138 9 [.ref 1, .int x1] [] σ) (e_H (e_L d 138) 138 6 [.ref 1, .int x1])) := e_L_to hd138 2 (by generalize e_L d 138 = K; generalize e_E d = E; rfl)
set_option maxRecDepth 20000 in
theorem B138_9 {d : Nat} {I : Nat → Nat → Int32} {z : e_Z} {x1 : Int32}  : e_L d 138 9 [.ref 1, .int x1] [] (mk I z) = (e_rI (e_E d 169 [.ref 477, .int x1] (mk I z)) (fun v σ => e_L d 138 20 [.ref 1, .int x1] [.int v] σ) (e_H (e_L d 138) 138 17 [.ref 1, .int x1])) := e_L_to hd138 5 (by generalize e_L d 138 = K; generalize e_E d = E; rfl)
set_option maxRecDepth 20000 in
theorem B138_20 {d : Nat} {I : Nat → Nat → Int32} {z : e_Z} {x1 y0 : Int32}  : e_L d 138 20 [.ref 1, .int x1] [.int y0] (mk I z) = (some (.inl (some (.int y0)), mk I z)) := e_L_to hd138 1 (by generalize e_L d 138 = K; generalize e_E d = E; rfl)
def hd139 : List Nat := [0, 19, 27]
set_option maxRecDepth 20000 in
theorem B139_0 {d : Nat} {I : Nat → Nat → Int32} {z : e_Z} {x1 : Int32}  : e_L d 139 0 [.ref 1, .int x1] [] (mk I z) = (if e_cc .ge x1 0 = true then (e_rV (e_E d 135 [.ref 1] (mk I z)) (fun σ => e_L d 139 19 [.ref 1, .int x1] [] σ) (e_H (e_L d 139) 139 16 [.ref 1, .int x1])) else (some (.inr 1, e_exc (mk I z)))) := e_L_to hd139 4 (by generalize e_L d 139 = K; generalize e_E d = E; rfl)
set_option maxRecDepth 20000 in
theorem B139_19 {d : Nat} {I : Nat → Nat → Int32} {z : e_Z} {x1 : Int32}  : e_L d 139 19 [.ref 1, .int x1] [] (mk I z) = (e_rI (e_E d 18 [.ref 470, .int x1] (mk I z)) (fun v σ => e_L d 139 27 [.ref 1, .int x1] [.int v] σ) (e_H (e_L d 139) 139 24 [.ref 1, .int x1])) := e_L_to hd139 4 (by generalize e_L d 139 = K; generalize e_E d = E; rfl)
set_option maxRecDepth 20000 in
theorem B139_27 {d : Nat} {I : Nat → Nat → Int32} {z : e_Z} {x1 y0 : Int32}  : e_L d 139 27 [.ref 1, .int x1] [.int y0] (mk I z) = (some (.inl (some (.int y0)), mk I z)) := e_L_to hd139 1 (by generalize e_L d 139 = K; generalize e_E d = E; rfl)
def hd140 : List Nat := [0, 5, 15, 44, 52, 66]
set_option maxRecDepth 20000 in
theorem B140_0 {d : Nat} {I : Nat → Nat → Int32} {z : e_Z} {x1 x2 : Int32}  : e_L d 140 0 [.ref 1, .int x1, .int x2] [] (mk I z) = (e_rV (e_E d 164 [.ref 1, .int x1] (mk I z)) (fun σ => e_L d 140 5 [.ref 1, .int x1, .int x2] [] σ) (e_H (e_L d 140) 140 2 [.ref 1, .int x1, .int x2])) := e_L_to hd140 3 (by generalize e_L d 140 = K; generalize e_E d = E; rfl)
set_option maxRecDepth 20000 in
theorem B140_5 {d : Nat} {I : Nat → Nat → Int32} {z : e_Z} {x1 x2 : Int32}  : e_L d 140 5 [.ref 1, .int x1, .int x2] [] (mk I z) = (if e_cc .lt x2 0 = true then (e_L d 140 15 [.ref 1, .int x1, .int x2] [] (mk I z)) else (if e_cc .le x2 (e_n 30) = true then (e_rV (e_E d 12 [.ref 470, .ref (bd z.2.1.1), .ref 51] (mk I z)) (fun σ => e_L d 140 44 [.ref 1, .int x1, .int x2] [] σ) (e_H (e_L d 140) 140 41 [.ref 1, .int x1, .int x2])) else (e_L d 140 15 [.ref 1, .int x1, .int x2] [] (mk I z)))) := e_L_to hd140 13 (by generalize e_L d 140 = K; generalize e_E d = E; rfl)
set_option maxRecDepth 20000 in
theorem B140_15 {d : Nat} {I : Nat → Nat → Int32} {z : e_Z} {x1 x2 : Int32}  : e_L d 140 15 [.ref 1, .int x1, .int x2] [] (mk I z) = (some (.inr 1, e_exc (mk I z))) := e_L_to hd140 1 (by generalize e_L d 140 = K; generalize e_E d = E; rfl)
set_option maxRecDepth 20000 in
theorem B140_44 {d : Nat} {I : Nat → Nat → Int32} {z : e_Z} {x1 x2 : Int32}  : e_L d 140 44 [.ref 1, .int x1, .int x2] [] (mk I z) = (e_rV (e_E d 13 [.ref 470, .int x2] (mk I z)) (fun σ => e_L d 140 52 [.ref 1, .int x1, .int x2] [] σ) (e_H (e_L d 140) 140 49 [.ref 1, .int x1, .int x2])) := e_L_to hd140 4 (by generalize e_L d 140 = K; generalize e_E d = E; rfl)
set_option maxRecDepth 20000 in
theorem B140_52 {d : Nat} {I : Nat → Nat → Int32} {z : e_Z} {x1 x2 : Int32}  : e_L d 140 52 [.ref 1, .int x1, .int x2] [] (mk I z) = (e_rI (e_E d 169 [.ref 475, .int x1] (mk I z)) (fun v σ => e_L d 140 66 [.ref 1, .int x1, .int x2] [.int v] σ) (e_H (e_L d 140) 140 63 [.ref 1, .int x1, .int x2])) := e_L_to hd140 6 (by generalize e_L d 140 = K; generalize e_E d = E; rfl)
set_option maxRecDepth 20000 in
theorem B140_66 {d : Nat} {I : Nat → Nat → Int32} {z : e_Z} {x1 x2 y0 : Int32}  : e_L d 140 66 [.ref 1, .int x1, .int x2] [.int y0] (mk I z) = (some (.inl (some (.int y0)), mk I z)) := e_L_to hd140 1 (by generalize e_L d 140 = K; generalize e_E d = E; rfl)
def hd141 : List Nat := [0, 5, 19, 28, 36, 62, 79, 87]
set_option maxRecDepth 20000 in
theorem B141_0 {d : Nat} {I : Nat → Nat → Int32} {z : e_Z} {x1 : Int32}  : e_L d 141 0 [.ref 1, .int x1, .null] [] (mk I z) = (e_rV (e_E d 167 [.ref 1, .int x1] (mk I z)) (fun σ => e_L d 141 5 [.ref 1, .int x1, .null] [] σ) (e_H (e_L d 141) 141 2 [.ref 1, .int x1, .null])) := e_L_to hd141 3 (by generalize e_L d 141 = K; generalize e_E d = E; rfl)
set_option maxRecDepth 20000 in
theorem B141_5 {d : Nat} {I : Nat → Nat → Int32} {z : e_Z} {x1 : Int32}  : e_L d 141 5 [.ref 1, .int x1, .null] [] (mk I z) = (e_rI (e_E d 174 [.int (I 51 1), .int x1] (mk I z)) (fun v σ => e_L d 141 19 [.ref 1, .int x1, .null] [.int v] σ) (e_H (e_L d 141) 141 16 [.ref 1, .int x1, .null])) := e_L_to hd141 6 (by generalize e_L d 141 = K; generalize e_E d = E; rfl)
set_option maxRecDepth 20000 in
theorem B141_19 {d : Nat} {I : Nat → Nat → Int32} {z : e_Z} {x1 y0 : Int32}  : e_L d 141 19 [.ref 1, .int x1, .null] [.int y0] (mk I z) = (if e_cc .eq y0 0 = true then (e_rV (e_E d 135 [.ref 1] (mk I z)) (fun σ => e_L d 141 28 [.ref 1, .int x1, .null] [] σ) (e_H (e_L d 141) 141 25 [.ref 1, .int x1, .null])) else (some (.inl (some (.int (e_n (-1)))), mk I z))) := e_L_to hd141 3 (by generalize e_L d 141 = K; generalize e_E d = E; rfl)
set_option maxRecDepth 20000 in
theorem B141_28 {d : Nat} {I : Nat → Nat → Int32} {z : e_Z} {x1 : Int32}  : e_L d 141 28 [.ref 1, .int x1, .null] [] (mk I z) = (e_rI (e_E d 19 [.ref 470, .int x1] (mk I z)) (fun v σ => e_L d 141 36 [.ref 1, .int x1, .null] [.int v] σ) (e_H (e_L d 141) 141 33 [.ref 1, .int x1, .null])) := e_L_to hd141 4 (by generalize e_L d 141 = K; generalize e_E d = E; rfl)
set_option maxRecDepth 20000 in
theorem B141_36 {d : Nat} {I : Nat → Nat → Int32} {z : e_Z} {x1 y0 : Int32}  : e_L d 141 36 [.ref 1, .int x1, .null] [.int y0] (mk I z) = (if e_cc .ne y0 (e_n (-1)) = true then (e_rV (e_E d 12 [.ref 470, .ref (bd z.2.1.1), .ref 51] (mk I z)) (fun σ => e_L d 141 62 [.ref 1, .int x1, .int y0] [] σ) (e_H (e_L d 141) 141 59 [.ref 1, .int x1, .int y0])) else (some (.inl (some (.int (e_n (-1)))), mk I z))) := e_L_to hd141 12 (by generalize e_L d 141 = K; generalize e_E d = E; rfl)
set_option maxRecDepth 20000 in
theorem B141_62 {d : Nat} {I : Nat → Nat → Int32} {z : e_Z} {x1 x2 : Int32}  : e_L d 141 62 [.ref 1, .int x1, .int x2] [] (mk I z) = (e_rV (e_E d 13 [.ref 470, .int (e_n 30)] (mk (e_u I 470 2 x1) z)) (fun σ => e_L d 141 79 [.ref 1, .int x1, .int x2] [] σ) (e_H (e_L d 141) 141 76 [.ref 1, .int x1, .int x2])) := e_L_to hd141 8 (by generalize e_L d 141 = K; generalize e_E d = E; rfl)
set_option maxRecDepth 20000 in
theorem B141_79 {d : Nat} {I : Nat → Nat → Int32} {z : e_Z} {x1 x2 : Int32}  : e_L d 141 79 [.ref 1, .int x1, .int x2] [] (mk I z) = (e_rI (e_E d 18 [.ref 470, .int x2] (mk I z)) (fun v σ => e_L d 141 87 [.ref 1, .int x1, .int x2] [.int v] σ) (e_H (e_L d 141) 141 84 [.ref 1, .int x1, .int x2])) := e_L_to hd141 4 (by generalize e_L d 141 = K; generalize e_E d = E; rfl)
set_option maxRecDepth 20000 in
theorem B141_87 {d : Nat} {I : Nat → Nat → Int32} {z : e_Z} {x1 x2 y0 : Int32}  : e_L d 141 87 [.ref 1, .int x1, .int x2] [.int y0] (mk I z) = (some (.inl (some (.int y0)), mk I z)) := e_L_to hd141 1 (by generalize e_L d 141 = K; generalize e_E d = E; rfl)
def hd142 : List Nat := [0, 10, 42, 51, 54]
set_option maxRecDepth 20000 in
theorem B142_0 {d : Nat} {I : Nat → Nat → Int32} {z : e_Z} {x1 : Int32}  : e_L d 142 0 [.ref 1, .int x1, .null, .null] [] (mk I z) = (if e_cc .lt x1 0 = true then (e_L d 142 10 [.ref 1, .int x1, .null, .null] [] (mk I z)) else (if e_cc .le x1 (e_n 9) = true then (e_L d 142 42 [.ref 1, .int x1, .int (I 51 0), .int (e_min (e_n 30) ((e_n 60) - (I 51 0)))] [] (mk I z)) else (e_L d 142 10 [.ref 1, .int x1, .null, .null] [] (mk I z)))) := e_L_to hd142 16 (by generalize e_L d 142 = K; generalize e_E d = E; rfl)
set_option maxRecDepth 20000 in
theorem B142_10 {d : Nat} {I : Nat → Nat → Int32} {z : e_Z} {x1 : Int32}  : e_L d 142 10 [.ref 1, .int x1, .null, .null] [] (mk I z) = (some (.inr 1, e_exc (mk I z))) := e_L_to hd142 1 (by generalize e_L d 142 = K; generalize e_E d = E; rfl)
set_option maxRecDepth 20000 in
theorem B142_42 {d : Nat} {I : Nat → Nat → Int32} {z : e_Z} {x1 x2 x3 : Int32}  : e_L d 142 42 [.ref 1, .int x1, .int x2, .int x3] [] (mk I z) = (if e_cc .lt x3 0 = true then (some (.inl (some (.int (e_n (-1)))), mk I z)) else (e_rI (e_E d 144 [.ref 1, .int x3] (mk I z)) (fun v σ => e_L d 142 51 [.ref 1, .int x1, .int x2, .int x3] [.int v] σ) (e_H (e_L d 142) 142 48 [.ref 1, .int x1, .int x2, .int x3]))) := e_L_to hd142 5 (by generalize e_L d 142 = K; generalize e_E d = E; rfl)
set_option maxRecDepth 20000 in
theorem B142_51 {d : Nat} {I : Nat → Nat → Int32} {z : e_Z} {x1 x2 x3 y0 : Int32}  : e_L d 142 51 [.ref 1, .int x1, .int x2, .int x3] [.int y0] (mk I z) = (e_rI (e_E d 329 [.int y0] (mk I z)) (fun v σ => e_L d 142 54 [.ref 1, .int x1, .int x2, .int x3] [.int v] σ) (e_H (e_L d 142) 142 51 [.ref 1, .int x1, .int x2, .int x3])) := e_L_to hd142 1 (by generalize e_L d 142 = K; generalize e_E d = E; rfl)
set_option maxRecDepth 20000 in
theorem B142_54 {d : Nat} {I : Nat → Nat → Int32} {z : e_Z} {x1 x2 x3 y0 : Int32}  : e_L d 142 54 [.ref 1, .int x1, .int x2, .int x3] [.int y0] (mk I z) = (if e_cc .gt y0 x1 = true then (e_L d 142 42 [.ref 1, .int x1, .int x2, .int (x3 + e_n (-1))] [] (mk I z)) else (some (.inl (some (.int (x2 + x3))), mk I z))) := e_L_to hd142 6 (by generalize e_L d 142 = K; generalize e_E d = E; rfl)
def hd143 : List Nat := [0, 5, 10]
set_option maxRecDepth 20000 in
theorem B143_0 {d : Nat} {I : Nat → Nat → Int32} {z : e_Z}  : e_L d 143 0 [.ref 1, .null] [] (mk I z) = (e_rI (e_E d 144 [.ref 1, .int (e_n 0)] (mk I z)) (fun v σ => e_L d 143 5 [.ref 1, .null] [.int v] σ) (e_H (e_L d 143) 143 2 [.ref 1, .null])) := e_L_to hd143 3 (by generalize e_L d 143 = K; generalize e_E d = E; rfl)
set_option maxRecDepth 20000 in
theorem B143_5 {d : Nat} {I : Nat → Nat → Int32} {z : e_Z} {y0 : Int32}  : e_L d 143 5 [.ref 1, .null] [.int y0] (mk I z) = (e_rV (e_E d 135 [.ref 1] (mk I z)) (fun σ => e_L d 143 10 [.ref 1, .int y0] [] σ) (e_H (e_L d 143) 143 7 [.ref 1, .int y0])) := e_L_to hd143 3 (by generalize e_L d 143 = K; generalize e_E d = E; rfl)
set_option maxRecDepth 20000 in
theorem B143_10 {d : Nat} {I : Nat → Nat → Int32} {z : e_Z} {x1 : Int32}  : e_L d 143 10 [.ref 1, .int x1] [] (mk I z) = (some (.inl (some (.int ((I 471 2) &&& (x1 ^^^ (e_n (-1)))))), mk I z)) := e_L_to hd143 9 (by generalize e_L d 143 = K; generalize e_E d = E; rfl)
def hd144 : List Nat := [0, 18, 35]
set_option maxRecDepth 20000 in
theorem B144_0 {d : Nat} {I : Nat → Nat → Int32} {z : e_Z} {x1 : Int32}  : e_L d 144 0 [.ref 1, .int x1] [] (mk I z) = (e_rV (e_E d 12 [.ref 470, .ref (bd z.2.1.1), .ref 51] (mk I z)) (fun σ => e_L d 144 18 [.ref 1, .int x1] [] σ) (e_H (e_L d 144) 144 15 [.ref 1, .int x1])) := e_L_to hd144 8 (by generalize e_L d 144 = K; generalize e_E d = E; rfl)
set_option maxRecDepth 20000 in
theorem B144_18 {d : Nat} {I : Nat → Nat → Int32} {z : e_Z} {x1 : Int32}  : e_L d 144 18 [.ref 1, .int x1] [] (mk I z) = (e_rV (e_E d 13 [.ref 470, .int (e_n 30)] (mk (e_u I 470 3 x1) z)) (fun σ => e_L d 144 35 [.ref 1, .int x1] [] σ) (e_H (e_L d 144) 144 32 [.ref 1, .int x1])) := e_L_to hd144 8 (by generalize e_L d 144 = K; generalize e_E d = E; rfl)
set_option maxRecDepth 20000 in
theorem B144_35 {d : Nat} {I : Nat → Nat → Int32} {z : e_Z} {x1 : Int32}  : e_L d 144 35 [.ref 1, .int x1] [] (mk I z) = (some (.inl (some (.int (I 471 2))), mk I z)) := e_L_to hd144 5 (by generalize e_L d 144 = K; generalize e_E d = E; rfl)
def hd145 : List Nat := [0, 4, 10, 32, 47, 50]
set_option maxRecDepth 20000 in
theorem B145_0 {d : Nat} {I : Nat → Nat → Int32} {z : e_Z}  : e_L d 145 0 [.ref 1, .null, .null, .null] [] (mk I z) = (e_rV (e_E d 135 [.ref 1] (mk I z)) (fun σ => e_L d 145 4 [.ref 1, .null, .null, .null] [] σ) (e_H (e_L d 145) 145 1 [.ref 1, .null, .null, .null])) := e_L_to hd145 2 (by generalize e_L d 145 = K; generalize e_E d = E; rfl)
set_option maxRecDepth 20000 in
theorem B145_4 {d : Nat} {I : Nat → Nat → Int32} {z : e_Z}  : e_L d 145 4 [.ref 1, .null, .null, .null] [] (mk I z) = (e_L d 145 10 [.ref 1, .int (e_n (-1)), .int (e_n 0), .int (e_n 0)] [] (mk I z)) := e_L_to hd145 6 (by generalize e_L d 145 = K; generalize e_E d = E; rfl)
set_option maxRecDepth 20000 in
theorem B145_10 {d : Nat} {I : Nat → Nat → Int32} {z : e_Z} {x1 x2 x3 : Int32}  : e_L d 145 10 [.ref 1, .int x1, .int x2, .int x3] [] (mk I z) = (if e_cc .ge x3 (I (bd z.2.1.1) 2) = true then (some (.inl (some (.int x1)), mk I z)) else (e_rI (e_E d 169 [.ref 478, .int x3] (mk I z)) (fun v σ => e_L d 145 32 [.ref 1, .int x1, .int x2, .int x3] [.int v] σ) (e_H (e_L d 145) 145 29 [.ref 1, .int x1, .int x2, .int x3]))) := by
  rcases z with ⟨J, ⟨_|_, rb, fb, tt⟩, cs, X⟩
  all_goals exact e_L_to hd145 10 (by generalize e_L d 145 = K; generalize e_E d = E; rfl)
set_option maxRecDepth 20000 in
theorem B145_32 {d : Nat} {I : Nat → Nat → Int32} {z : e_Z} {x1 x2 x3 y0 : Int32}  : e_L d 145 32 [.ref 1, .int x1, .int x2, .int x3] [.int y0] (mk I z) = (if e_cc .le y0 x2 = true then (e_L d 145 50 [.ref 1, .int x1, .int x2, .int x3] [] (mk I z)) else (e_rI (e_E d 169 [.ref 478, .int x3] (mk I z)) (fun v σ => e_L d 145 47 [.ref 1, .int x1, .int x2, .int x3] [.int v] σ) (e_H (e_L d 145) 145 44 [.ref 1, .int x1, .int x2, .int x3]))) := e_L_to hd145 7 (by generalize e_L d 145 = K; generalize e_E d = E; rfl)
set_option maxRecDepth 20000 in
theorem B145_47 {d : Nat} {I : Nat → Nat → Int32} {z : e_Z} {x1 x2 x3 y0 : Int32}  : e_L d 145 47 [.ref 1, .int x1, .int x2, .int x3] [.int y0] (mk I z) = (e_L d 145 50 [.ref 1, .int x3, .int y0, .int x3] [] (mk I z)) := e_L_to hd145 3 (by generalize e_L d 145 = K; generalize e_E d = E; rfl)
set_option maxRecDepth 20000 in
theorem B145_50 {d : Nat} {I : Nat → Nat → Int32} {z : e_Z} {x1 x2 x3 : Int32}  : e_L d 145 50 [.ref 1, .int x1, .int x2, .int x3] [] (mk I z) = (e_L d 145 10 [.ref 1, .int x1, .int x2, .int (x3 + e_n 1)] [] (mk I z)) := e_L_to hd145 2 (by generalize e_L d 145 = K; generalize e_E d = E; rfl)
def hd146 : List Nat := [0, 5, 9, 16, 40, 56, 60, 94]
set_option maxRecDepth 20000 in
theorem B146_0 {d : Nat} {I : Nat → Nat → Int32} {z : e_Z} {x1 : Int32}  : e_L d 146 0 [.ref 1, .int x1, .null, .null, .null] [] (mk I z) = (e_rV (e_E d 168 [.int x1, .int (e_n 2)] (mk I z)) (fun σ => e_L d 146 5 [.ref 1, .int x1, .null, .null, .null] [] σ) (e_H (e_L d 146) 146 2 [.ref 1, .int x1, .null, .null, .null])) := e_L_to hd146 3 (by generalize e_L d 146 = K; generalize e_E d = E; rfl)
set_option maxRecDepth 20000 in
theorem B146_5 {d : Nat} {I : Nat → Nat → Int32} {z : e_Z} {x1 : Int32}  : e_L d 146 5 [.ref 1, .int x1, .null, .null, .null] [] (mk I z) = (e_rV (e_E d 135 [.ref 1] (mk I z)) (fun σ => e_L d 146 9 [.ref 1, .int x1, .null, .null, .null] [] σ) (e_H (e_L d 146) 146 6 [.ref 1, .int x1, .null, .null, .null])) := e_L_to hd146 2 (by generalize e_L d 146 = K; generalize e_E d = E; rfl)
set_option maxRecDepth 20000 in
theorem B146_9 {d : Nat} {I : Nat → Nat → Int32} {z : e_Z} {x1 : Int32}  : e_L d 146 9 [.ref 1, .int x1, .null, .null, .null] [] (mk I z) = (e_L d 146 16 [.ref 1, .int x1, .int (e_n (-1)), .int (e_n 0), .int (e_n 0)] [] (mk I z)) := e_L_to hd146 6 (by generalize e_L d 146 = K; generalize e_E d = E; rfl)
set_option maxRecDepth 20000 in
theorem B146_16 {d : Nat} {I : Nat → Nat → Int32} {z : e_Z} {x1 x2 x3 x4 : Int32}  : e_L d 146 16 [.ref 1, .int x1, .int x2, .int x3, .int x4] [] (mk I z) = (if e_cc .ge x4 (I 470 7) = true then (if e_cc .ne x1 (e_n 1) = true then (if e_cc .ne x2 (e_n (-1)) = true then (e_L d 146 94 [.ref 1, .int x1, .int x2, .int x3, .int x4] [.int ((I 51 0) + x2)] (mk I z)) else (e_L d 146 94 [.ref 1, .int x1, .int x2, .int x3, .int x4] [.int (e_n (-1))] (mk I z))) else (some (.inl (some (.int x3)), mk I z))) else (e_rI (e_E d 169 [.ref 479, .int x4] (mk I z)) (fun v σ => e_L d 146 40 [.ref 1, .int x1, .int x2, .int x3, .int x4] [.int v] σ) (e_H (e_L d 146) 146 37 [.ref 1, .int x1, .int x2, .int x3, .int x4]))) := e_L_to hd146 17 (by generalize e_L d 146 = K; generalize e_E d = E; rfl)
set_option maxRecDepth 20000 in
theorem B146_40 {d : Nat} {I : Nat → Nat → Int32} {z : e_Z} {x1 x2 x3 x4 y0 : Int32}  : e_L d 146 40 [.ref 1, .int x1, .int x2, .int x3, .int x4] [.int y0] (mk I z) = (if e_cc .le y0 x3 = true then (e_L d 146 60 [.ref 1, .int x1, .int x2, .int x3, .int x4] [] (mk I z)) else (e_rI (e_E d 169 [.ref 479, .int x4] (mk I z)) (fun v σ => e_L d 146 56 [.ref 1, .int x1, .int x2, .int x3, .int x4] [.int v] σ) (e_H (e_L d 146) 146 53 [.ref 1, .int x1, .int x2, .int x3, .int x4]))) := e_L_to hd146 7 (by generalize e_L d 146 = K; generalize e_E d = E; rfl)
set_option maxRecDepth 20000 in
theorem B146_56 {d : Nat} {I : Nat → Nat → Int32} {z : e_Z} {x1 x2 x3 x4 y0 : Int32}  : e_L d 146 56 [.ref 1, .int x1, .int x2, .int x3, .int x4] [.int y0] (mk I z) = (e_L d 146 60 [.ref 1, .int x1, .int x4, .int y0, .int x4] [] (mk I z)) := e_L_to hd146 3 (by generalize e_L d 146 = K; generalize e_E d = E; rfl)
set_option maxRecDepth 20000 in
theorem B146_60 {d : Nat} {I : Nat → Nat → Int32} {z : e_Z} {x1 x2 x3 x4 : Int32}  : e_L d 146 60 [.ref 1, .int x1, .int x2, .int x3, .int x4] [] (mk I z) = (e_L d 146 16 [.ref 1, .int x1, .int x2, .int x3, .int (x4 + e_n 1)] [] (mk I z)) := e_L_to hd146 2 (by generalize e_L d 146 = K; generalize e_E d = E; rfl)
set_option maxRecDepth 20000 in
theorem B146_94 {d : Nat} {I : Nat → Nat → Int32} {z : e_Z} {x1 x2 x3 x4 y0 : Int32}  : e_L d 146 94 [.ref 1, .int x1, .int x2, .int x3, .int x4] [.int y0] (mk I z) = (some (.inl (some (.int y0)), mk I z)) := e_L_to hd146 1 (by generalize e_L d 146 = K; generalize e_E d = E; rfl)
def hd147 : List Nat := [0, 4]
set_option maxRecDepth 20000 in
theorem B147_0 {d : Nat} {I : Nat → Nat → Int32} {z : e_Z}  : e_L d 147 0 [.ref 1] [] (mk I z) = (e_rV (e_E d 135 [.ref 1] (mk I z)) (fun σ => e_L d 147 4 [.ref 1] [] σ) (e_H (e_L d 147) 147 1 [.ref 1])) := e_L_to hd147 2 (by generalize e_L d 147 = K; generalize e_E d = E; rfl)
set_option maxRecDepth 20000 in
theorem B147_4 {d : Nat} {I : Nat → Nat → Int32} {z : e_Z}  : e_L d 147 4 [.ref 1] [] (mk I z) = (some (.inl (some (.int (I 470 8))), mk I z)) := e_L_to hd147 4 (by generalize e_L d 147 = K; generalize e_E d = E; rfl)
def hd148 : List Nat := [0, 5, 10, 24, 34, 63, 84]
set_option maxRecDepth 20000 in
theorem B148_0 {d : Nat} {I : Nat → Nat → Int32} {z : e_Z} {x1 x2 : Int32}  : e_L d 148 0 [.ref 1, .int x1, .int x2, .null, .null, .null, .null] [] (mk I z) = (e_rV (e_E d 167 [.ref 1, .int x1] (mk I z)) (fun σ => e_L d 148 5 [.ref 1, .int x1, .int x2, .null, .null, .null, .null] [] σ) (e_H (e_L d 148) 148 2 [.ref 1, .int x1, .int x2, .null, .null, .null, .null])) := e_L_to hd148 3 (by generalize e_L d 148 = K; generalize e_E d = E; rfl)
set_option maxRecDepth 20000 in
theorem B148_5 {d : Nat} {I : Nat → Nat → Int32} {z : e_Z} {x1 x2 : Int32}  : e_L d 148 5 [.ref 1, .int x1, .int x2, .null, .null, .null, .null] [] (mk I z) = (e_rV (e_E d 165 [.ref 1, .int x2] (mk I z)) (fun σ => e_L d 148 10 [.ref 1, .int x1, .int x2, .null, .null, .null, .null] [] σ) (e_H (e_L d 148) 148 7 [.ref 1, .int x1, .int x2, .null, .null, .null, .null])) := e_L_to hd148 3 (by generalize e_L d 148 = K; generalize e_E d = E; rfl)
set_option maxRecDepth 20000 in
theorem B148_10 {d : Nat} {I : Nat → Nat → Int32} {z : e_Z} {x1 x2 : Int32}  : e_L d 148 10 [.ref 1, .int x1, .int x2, .null, .null, .null, .null] [] (mk I z) = (e_rI (e_E d 174 [.int (I 51 2), .int x1] (mk I z)) (fun v σ => e_L d 148 24 [.ref 1, .int x1, .int x2, .null, .null, .null, .null] [.int v] σ) (e_H (e_L d 148) 148 21 [.ref 1, .int x1, .int x2, .null, .null, .null, .null])) := e_L_to hd148 6 (by generalize e_L d 148 = K; generalize e_E d = E; rfl)
set_option maxRecDepth 20000 in
theorem B148_24 {d : Nat} {I : Nat → Nat → Int32} {z : e_Z} {x1 x2 y0 : Int32}  : e_L d 148 24 [.ref 1, .int x1, .int x2, .null, .null, .null, .null] [.int y0] (mk I z) = (if e_cc .eq y0 0 = true then (e_rI (e_E d 136 [.ref 1, .int x1] (mk I z)) (fun v σ => e_L d 148 34 [.ref 1, .int x1, .int x2, .null, .null, .null, .null] [.int v] σ) (e_H (e_L d 148) 148 31 [.ref 1, .int x1, .int x2, .null, .null, .null, .null])) else (some (.inl (some (.int (e_n (-1)))), mk I z))) := e_L_to hd148 4 (by generalize e_L d 148 = K; generalize e_E d = E; rfl)
set_option maxRecDepth 20000 in
theorem B148_34 {d : Nat} {I : Nat → Nat → Int32} {z : e_Z} {x1 x2 y0 : Int32}  : e_L d 148 34 [.ref 1, .int x1, .int x2, .null, .null, .null, .null] [.int y0] (mk I z) = (e_L d 148 63 [.ref 1, .int x1, .int x2, .int y0, .int (I 51 0), .int (e_min ((I 51 0) + (e_n 30)) (e_n 60)), .int (I 51 0)] [] (mk I z)) := e_L_to hd148 14 (by generalize e_L d 148 = K; generalize e_E d = E; rfl)
set_option maxRecDepth 20000 in
theorem B148_63 {d : Nat} {I : Nat → Nat → Int32} {z : e_Z} {x1 x2 x3 x4 x5 x6 : Int32}  : e_L d 148 63 [.ref 1, .int x1, .int x2, .int x3, .int x4, .int x5, .int x6] [] (mk I z) = (if e_cc .ge x6 x5 = true then (some (.inl (some (.int (e_n (-1)))), mk I z)) else (e_rI (e_E d 33 [.ref (bd z.2.1.1 + 1), .int x2, .int x3, .int x6] (mk I z)) (fun v σ => e_L d 148 84 [.ref 1, .int x1, .int x2, .int x3, .int x4, .int x5, .int x6] [.int v] σ) (e_H (e_L d 148) 148 81 [.ref 1, .int x1, .int x2, .int x3, .int x4, .int x5, .int x6]))) := by
  rcases z with ⟨J, ⟨_|_, rb, fb, tt⟩, cs, X⟩
  all_goals exact e_L_to hd148 10 (by generalize e_L d 148 = K; generalize e_E d = E; rfl)
set_option maxRecDepth 20000 in
theorem B148_84 {d : Nat} {I : Nat → Nat → Int32} {z : e_Z} {x1 x2 x3 x4 x5 x6 y0 : Int32}  : e_L d 148 84 [.ref 1, .int x1, .int x2, .int x3, .int x4, .int x5, .int x6] [.int y0] (mk I z) = (if e_cc .eq y0 0 = true then (e_L d 148 63 [.ref 1, .int x1, .int x2, .int x3, .int x4, .int x5, .int (x6 + e_n 1)] [] (mk I z)) else (some (.inl (some (.int x6)), mk I z))) := e_L_to hd148 3 (by generalize e_L d 148 = K; generalize e_E d = E; rfl)
def hd149 : List Nat := [0, 5, 19, 45, 60, 64]
set_option maxRecDepth 20000 in
theorem B149_0 {d : Nat} {I : Nat → Nat → Int32} {z : e_Z} {x1 : Int32}  : e_L d 149 0 [.ref 1, .int x1] [] (mk I z) = (e_rV (e_E d 167 [.ref 1, .int x1] (mk I z)) (fun σ => e_L d 149 5 [.ref 1, .int x1] [] σ) (e_H (e_L d 149) 149 2 [.ref 1, .int x1])) := e_L_to hd149 3 (by generalize e_L d 149 = K; generalize e_E d = E; rfl)
set_option maxRecDepth 20000 in
theorem B149_5 {d : Nat} {I : Nat → Nat → Int32} {z : e_Z} {x1 : Int32}  : e_L d 149 5 [.ref 1, .int x1] [] (mk I z) = (e_rI (e_E d 174 [.int (I 51 2), .int x1] (mk I z)) (fun v σ => e_L d 149 19 [.ref 1, .int x1] [.int v] σ) (e_H (e_L d 149) 149 16 [.ref 1, .int x1])) := e_L_to hd149 6 (by generalize e_L d 149 = K; generalize e_E d = E; rfl)
set_option maxRecDepth 20000 in
theorem B149_19 {d : Nat} {I : Nat → Nat → Int32} {z : e_Z} {x1 y0 : Int32}  : e_L d 149 19 [.ref 1, .int x1] [.int y0] (mk I z) = (if e_cc .eq y0 0 = true then (e_rI (e_E d 169 [.ref 54, .int x1] (mk I z)) (fun v σ => e_L d 149 45 [.ref 1, .int x1] [.int v, .ref (bd z.2.1.1 + 1)] σ) (e_H (e_L d 149) 149 42 [.ref 1, .int x1])) else (some (.inl (some (.int (e_n (-1)))), mk I z))) := by
  rcases z with ⟨J, ⟨_|_, rb, fb, tt⟩, cs, X⟩
  all_goals exact e_L_to hd149 10 (by generalize e_L d 149 = K; generalize e_E d = E; rfl)
set_option maxRecDepth 20000 in
theorem B149_45 {d : Nat} {I : Nat → Nat → Int32} {z : e_Z} {x1 y1 : Int32}  : e_L d 149 45 [.ref 1, .int x1] [.int y1, .ref (bd z.2.1.1 + 1)] (mk I z) = (e_rI (e_E d 136 [.ref 1, .int x1] (mk I z)) (fun v σ => e_L d 149 60 [.ref 1, .int x1] [.int v, .int (I 51 0), .int y1, .ref (bd z.2.1.1 + 1)] σ) (e_H (e_L d 149) 149 57 [.ref 1, .int x1])) := e_L_to hd149 7 (by generalize e_L d 149 = K; generalize e_E d = E; rfl)
set_option maxRecDepth 20000 in
theorem B149_60 {d : Nat} {I : Nat → Nat → Int32} {z : e_Z} {x1 y1 y2 y3 : Int32}  : e_L d 149 60 [.ref 1, .int x1] [.int y3, .int y2, .int y1, .ref (bd z.2.1.1 + 1)] (mk I z) = (e_rI (e_E d 34 [.ref (bd z.2.1.1 + 1), .int y1, .int y2, .int y3, .int (e_n (-1))] (mk I z)) (fun v σ => e_L d 149 64 [.ref 1, .int x1] [.int v] σ) (e_H (e_L d 149) 149 61 [.ref 1, .int x1])) := by
  rcases z with ⟨J, ⟨_|_, rb, fb, tt⟩, cs, X⟩
  all_goals exact e_L_to hd149 2 (by generalize e_L d 149 = K; generalize e_E d = E; rfl)
set_option maxRecDepth 20000 in
theorem B149_64 {d : Nat} {I : Nat → Nat → Int32} {z : e_Z} {x1 y0 : Int32}  : e_L d 149 64 [.ref 1, .int x1] [.int y0] (mk I z) = (some (.inl (some (.int y0)), mk I z)) := e_L_to hd149 1 (by generalize e_L d 149 = K; generalize e_E d = E; rfl)
def hd150 : List Nat := [0, 5, 19, 38, 44, 68, 77, 116]
set_option maxRecDepth 20000 in
theorem B150_0 {d : Nat} {I : Nat → Nat → Int32} {z : e_Z} {x1 : Int32}  : e_L d 150 0 [.ref 1, .int x1, .null, .null, .null] [] (mk I z) = (e_rV (e_E d 167 [.ref 1, .int x1] (mk I z)) (fun σ => e_L d 150 5 [.ref 1, .int x1, .null, .null, .null] [] σ) (e_H (e_L d 150) 150 2 [.ref 1, .int x1, .null, .null, .null])) := e_L_to hd150 3 (by generalize e_L d 150 = K; generalize e_E d = E; rfl)
set_option maxRecDepth 20000 in
theorem B150_5 {d : Nat} {I : Nat → Nat → Int32} {z : e_Z} {x1 : Int32}  : e_L d 150 5 [.ref 1, .int x1, .null, .null, .null] [] (mk I z) = (e_rI (e_E d 174 [.int (I 51 2), .int x1] (mk I z)) (fun v σ => e_L d 150 19 [.ref 1, .int x1, .null, .null, .null] [.int v] σ) (e_H (e_L d 150) 150 16 [.ref 1, .int x1, .null, .null, .null])) := e_L_to hd150 6 (by generalize e_L d 150 = K; generalize e_E d = E; rfl)
set_option maxRecDepth 20000 in
theorem B150_19 {d : Nat} {I : Nat → Nat → Int32} {z : e_Z} {x1 y0 : Int32}  : e_L d 150 19 [.ref 1, .int x1, .null, .null, .null] [.int y0] (mk I z) = (if e_cc .eq y0 0 = true then (e_rI (e_E d 169 [.ref 54, .int x1] (mk I z)) (fun v σ => e_L d 150 38 [.ref 1, .int x1, .null, .null, .null] [.int v] σ) (e_H (e_L d 150) 150 35 [.ref 1, .int x1, .null, .null, .null])) else (some (.inl (some (.int (e_n (-1)))), mk I z))) := e_L_to hd150 7 (by generalize e_L d 150 = K; generalize e_E d = E; rfl)
set_option maxRecDepth 20000 in
theorem B150_38 {d : Nat} {I : Nat → Nat → Int32} {z : e_Z} {x1 y0 : Int32}  : e_L d 150 38 [.ref 1, .int x1, .null, .null, .null] [.int y0] (mk I z) = (e_rI (e_E d 136 [.ref 1, .int x1] (mk I z)) (fun v σ => e_L d 150 44 [.ref 1, .int x1, .int y0, .null, .null] [.int v] σ) (e_H (e_L d 150) 150 41 [.ref 1, .int x1, .int y0, .null, .null])) := e_L_to hd150 4 (by generalize e_L d 150 = K; generalize e_E d = E; rfl)
set_option maxRecDepth 20000 in
theorem B150_44 {d : Nat} {I : Nat → Nat → Int32} {z : e_Z} {x1 x2 y0 : Int32}  : e_L d 150 44 [.ref 1, .int x1, .int x2, .null, .null] [.int y0] (mk I z) = (e_rI (e_E d 34 [.ref (bd z.2.1.1 + 1), .int x2, .int (I 51 0), .int y0, .int (e_n (-1))] (mk I z)) (fun v σ => e_L d 150 68 [.ref 1, .int x1, .int x2, .int y0, .null] [.int v] σ) (e_H (e_L d 150) 150 65 [.ref 1, .int x1, .int x2, .int y0, .null])) := by
  rcases z with ⟨J, ⟨_|_, rb, fb, tt⟩, cs, X⟩
  all_goals exact e_L_to hd150 12 (by generalize e_L d 150 = K; generalize e_E d = E; rfl)
set_option maxRecDepth 20000 in
theorem B150_68 {d : Nat} {I : Nat → Nat → Int32} {z : e_Z} {x1 x2 x3 y0 : Int32}  : e_L d 150 68 [.ref 1, .int x1, .int x2, .int x3, .null] [.int y0] (mk I z) = (if e_cc .eq y0 (e_n (-1)) = true then (e_L d 150 77 [.ref 1, .int x1, .int x2, .int x3, .int (e_n 0)] [] (mk I z)) else (some (.inl (some (.int (e_n (-1)))), mk I z))) := e_L_to hd150 4 (by generalize e_L d 150 = K; generalize e_E d = E; rfl)
set_option maxRecDepth 20000 in
theorem B150_77 {d : Nat} {I : Nat → Nat → Int32} {z : e_Z} {x1 x2 x3 x4 : Int32}  : e_L d 150 77 [.ref 1, .int x1, .int x2, .int x3, .int x4] [] (mk I z) = (if e_cc .ge x4 (I (bd z.2.1.1 + 1) 1) = true then (some (.inl (some (.int (e_n (-1)))), mk I z)) else (e_rI (e_E d 34 [.ref (bd z.2.1.1 + 1), .int x2, .int (I 51 0), .int x3, .int x4] (mk I z)) (fun v σ => e_L d 150 116 [.ref 1, .int x1, .int x2, .int x3, .int x4] [.int v] σ) (e_H (e_L d 150) 150 113 [.ref 1, .int x1, .int x2, .int x3, .int x4]))) := by
  rcases z with ⟨J, ⟨_|_, rb, fb, tt⟩, cs, X⟩
  all_goals exact e_L_to hd150 17 (by generalize e_L d 150 = K; generalize e_E d = E; rfl)
set_option maxRecDepth 20000 in
theorem B150_116 {d : Nat} {I : Nat → Nat → Int32} {z : e_Z} {x1 x2 x3 x4 y0 : Int32}  : e_L d 150 116 [.ref 1, .int x1, .int x2, .int x3, .int x4] [.int y0] (mk I z) = (if e_cc .eq y0 (e_n (-1)) = true then (e_L d 150 77 [.ref 1, .int x1, .int x2, .int x3, .int (x4 + e_n 1)] [] (mk I z)) else (some (.inl (some (.int x4)), mk I z))) := e_L_to hd150 4 (by generalize e_L d 150 = K; generalize e_E d = E; rfl)
def hd151 : List Nat := [0, 5, 16, 41, 67, 83, 86]
set_option maxRecDepth 20000 in
theorem B151_0 {d : Nat} {I : Nat → Nat → Int32} {z : e_Z} {x1 x2 : Int32}  : e_L d 151 0 [.ref 1, .int x1, .int x2] [] (mk I z) = (e_rV (e_E d 167 [.ref 1, .int x1] (mk I z)) (fun σ => e_L d 151 5 [.ref 1, .int x1, .int x2] [] σ) (e_H (e_L d 151) 151 2 [.ref 1, .int x1, .int x2])) := e_L_to hd151 3 (by generalize e_L d 151 = K; generalize e_E d = E; rfl)
set_option maxRecDepth 20000 in
theorem B151_5 {d : Nat} {I : Nat → Nat → Int32} {z : e_Z} {x1 x2 : Int32}  : e_L d 151 5 [.ref 1, .int x1, .int x2] [] (mk I z) = (if e_cc .lt x2 (e_n 1) = true then (e_L d 151 16 [.ref 1, .int x1, .int x2] [] (mk I z)) else (if e_cc .le x2 (e_n 9) = true then (e_rI (e_E d 174 [.int (I 51 2), .int x1] (mk I z)) (fun v σ => e_L d 151 41 [.ref 1, .int x1, .int x2] [.int v] σ) (e_H (e_L d 151) 151 38 [.ref 1, .int x1, .int x2])) else (e_L d 151 16 [.ref 1, .int x1, .int x2] [] (mk I z)))) := e_L_to hd151 12 (by generalize e_L d 151 = K; generalize e_E d = E; rfl)
set_option maxRecDepth 20000 in
theorem B151_16 {d : Nat} {I : Nat → Nat → Int32} {z : e_Z} {x1 x2 : Int32}  : e_L d 151 16 [.ref 1, .int x1, .int x2] [] (mk I z) = (some (.inr 1, e_exc (mk I z))) := e_L_to hd151 1 (by generalize e_L d 151 = K; generalize e_E d = E; rfl)
set_option maxRecDepth 20000 in
theorem B151_41 {d : Nat} {I : Nat → Nat → Int32} {z : e_Z} {x1 x2 y0 : Int32}  : e_L d 151 41 [.ref 1, .int x1, .int x2] [.int y0] (mk I z) = (if e_cc .eq y0 0 = true then (e_rI (e_E d 169 [.ref 54, .int x1] (mk I z)) (fun v σ => e_L d 151 67 [.ref 1, .int x1, .int x2] [.int v, .ref (bd z.2.1.1 + 1)] σ) (e_H (e_L d 151) 151 64 [.ref 1, .int x1, .int x2])) else (some (.inl (some (.int (e_n 0))), mk I z))) := by
  rcases z with ⟨J, ⟨_|_, rb, fb, tt⟩, cs, X⟩
  all_goals exact e_L_to hd151 10 (by generalize e_L d 151 = K; generalize e_E d = E; rfl)
set_option maxRecDepth 20000 in
theorem B151_67 {d : Nat} {I : Nat → Nat → Int32} {z : e_Z} {x1 x2 y1 : Int32}  : e_L d 151 67 [.ref 1, .int x1, .int x2] [.int y1, .ref (bd z.2.1.1 + 1)] (mk I z) = (e_rI (e_E d 136 [.ref 1, .int x1] (mk I z)) (fun v σ => e_L d 151 83 [.ref 1, .int x1, .int x2] [.int v, .int x2, .int (I 51 0), .int y1, .ref (bd z.2.1.1 + 1)] σ) (e_H (e_L d 151) 151 80 [.ref 1, .int x1, .int x2])) := e_L_to hd151 8 (by generalize e_L d 151 = K; generalize e_E d = E; rfl)
set_option maxRecDepth 20000 in
theorem B151_83 {d : Nat} {I : Nat → Nat → Int32} {z : e_Z} {x1 x2 y1 y2 y3 y4 : Int32}  : e_L d 151 83 [.ref 1, .int x1, .int x2] [.int y4, .int y3, .int y2, .int y1, .ref (bd z.2.1.1 + 1)] (mk I z) = (e_rI (e_E d 36 [.ref (bd z.2.1.1 + 1), .int y1, .int y2, .int y3, .int y4] (mk I z)) (fun v σ => e_L d 151 86 [.ref 1, .int x1, .int x2] [.int v] σ) (e_H (e_L d 151) 151 83 [.ref 1, .int x1, .int x2])) := by
  rcases z with ⟨J, ⟨_|_, rb, fb, tt⟩, cs, X⟩
  all_goals exact e_L_to hd151 1 (by generalize e_L d 151 = K; generalize e_E d = E; rfl)
set_option maxRecDepth 20000 in
theorem B151_86 {d : Nat} {I : Nat → Nat → Int32} {z : e_Z} {x1 x2 y0 : Int32}  : e_L d 151 86 [.ref 1, .int x1, .int x2] [.int y0] (mk I z) = (some (.inl (some (.int y0)), mk I z)) := e_L_to hd151 1 (by generalize e_L d 151 = K; generalize e_E d = E; rfl)
def hd152 : List Nat := [0, 5, 10, 14, 18, 30, 50]
set_option maxRecDepth 20000 in
theorem B152_0 {d : Nat} {I : Nat → Nat → Int32} {z : e_Z} {x1 x2 : Int32}  : e_L d 152 0 [.ref 1, .int x1, .int x2, .null, .null] [] (mk I z) = (e_rV (e_E d 165 [.ref 1, .int x1] (mk I z)) (fun σ => e_L d 152 5 [.ref 1, .int x1, .int x2, .null, .null] [] σ) (e_H (e_L d 152) 152 2 [.ref 1, .int x1, .int x2, .null, .null])) := e_L_to hd152 3 (by generalize e_L d 152 = K; generalize e_E d = E; rfl)
set_option maxRecDepth 20000 in
theorem B152_5 {d : Nat} {I : Nat → Nat → Int32} {z : e_Z} {x1 x2 : Int32}  : e_L d 152 5 [.ref 1, .int x1, .int x2, .null, .null] [] (mk I z) = (e_rV (e_E d 165 [.ref 1, .int x2] (mk I z)) (fun σ => e_L d 152 10 [.ref 1, .int x1, .int x2, .null, .null] [] σ) (e_H (e_L d 152) 152 7 [.ref 1, .int x1, .int x2, .null, .null])) := e_L_to hd152 3 (by generalize e_L d 152 = K; generalize e_E d = E; rfl)
set_option maxRecDepth 20000 in
theorem B152_10 {d : Nat} {I : Nat → Nat → Int32} {z : e_Z} {x1 x2 : Int32}  : e_L d 152 10 [.ref 1, .int x1, .int x2, .null, .null] [] (mk I z) = (e_rI (e_E d 173 [.int x1] (mk I z)) (fun v σ => e_L d 152 14 [.ref 1, .int x1, .int x2, .null, .null] [.int v] σ) (e_H (e_L d 152) 152 11 [.ref 1, .int x1, .int x2, .null, .null])) := e_L_to hd152 2 (by generalize e_L d 152 = K; generalize e_E d = E; rfl)
set_option maxRecDepth 20000 in
theorem B152_14 {d : Nat} {I : Nat → Nat → Int32} {z : e_Z} {x1 x2 y0 : Int32}  : e_L d 152 14 [.ref 1, .int x1, .int x2, .null, .null] [.int y0] (mk I z) = (e_L d 152 18 [.ref 1, .int x1, .int x2, .int y0, .int (e_n 0)] [] (mk I z)) := e_L_to hd152 3 (by generalize e_L d 152 = K; generalize e_E d = E; rfl)
set_option maxRecDepth 20000 in
theorem B152_18 {d : Nat} {I : Nat → Nat → Int32} {z : e_Z} {x1 x2 x3 x4 : Int32}  : e_L d 152 18 [.ref 1, .int x1, .int x2, .int x3, .int x4] [] (mk I z) = (if e_cc .ge x4 (e_n 8) = true then (some (.inl (some (.int (e_n (-1)))), mk I z)) else (e_rI (e_E d 174 [.int x3, .int x2] (mk I z)) (fun v σ => e_L d 152 30 [.ref 1, .int x1, .int x2, .int x3, .int x4] [.int v] σ) (e_H (e_L d 152) 152 27 [.ref 1, .int x1, .int x2, .int x3, .int x4]))) := e_L_to hd152 6 (by generalize e_L d 152 = K; generalize e_E d = E; rfl)
set_option maxRecDepth 20000 in
theorem B152_30 {d : Nat} {I : Nat → Nat → Int32} {z : e_Z} {x1 x2 x3 x4 y0 : Int32}  : e_L d 152 30 [.ref 1, .int x1, .int x2, .int x3, .int x4] [.int y0] (mk I z) = (if e_cc .eq y0 0 = true then (e_rI (e_E d 32 [.ref (bd z.2.1.1 + 1), .int x3, .int (e_n (-1)), .int (e_n (-1))] (mk I z)) (fun v σ => e_L d 152 50 [.ref 1, .int x1, .int x2, .int x3, .int x4] [.int v, .int x3] σ) (e_H (e_L d 152) 152 47 [.ref 1, .int x1, .int x2, .int x3, .int x4])) else (some (.inl (some (.int x4)), mk I z))) := by
  rcases z with ⟨J, ⟨_|_, rb, fb, tt⟩, cs, X⟩
  all_goals exact e_L_to hd152 9 (by generalize e_L d 152 = K; generalize e_E d = E; rfl)
set_option maxRecDepth 20000 in
theorem B152_50 {d : Nat} {I : Nat → Nat → Int32} {z : e_Z} {x1 x2 x3 x4 y0 y1 : Int32}  : e_L d 152 50 [.ref 1, .int x1, .int x2, .int x3, .int x4] [.int y1, .int y0] (mk I z) = (e_L d 152 18 [.ref 1, .int x1, .int x2, .int (y0 ||| y1), .int (x4 + e_n 1)] [] (mk I z)) := e_L_to hd152 4 (by generalize e_L d 152 = K; generalize e_E d = E; rfl)
def hd153 : List Nat := [0, 5, 26, 39]
set_option maxRecDepth 20000 in
theorem B153_0 {d : Nat} {I : Nat → Nat → Int32} {z : e_Z} {x1 : Int32}  : e_L d 153 0 [.ref 1, .int x1] [] (mk I z) = (e_rV (e_E d 167 [.ref 1, .int x1] (mk I z)) (fun σ => e_L d 153 5 [.ref 1, .int x1] [] σ) (e_H (e_L d 153) 153 2 [.ref 1, .int x1])) := e_L_to hd153 3 (by generalize e_L d 153 = K; generalize e_E d = E; rfl)
set_option maxRecDepth 20000 in
theorem B153_5 {d : Nat} {I : Nat → Nat → Int32} {z : e_Z} {x1 : Int32}  : e_L d 153 5 [.ref 1, .int x1] [] (mk I z) = (e_rI (e_E d 169 [.ref 54, .int x1] (mk I z)) (fun v σ => e_L d 153 26 [.ref 1, .int x1] [.int v, .ref (bd z.2.1.1 + 1)] σ) (e_H (e_L d 153) 153 23 [.ref 1, .int x1])) := by
  rcases z with ⟨J, ⟨_|_, rb, fb, tt⟩, cs, X⟩
  all_goals exact e_L_to hd153 9 (by generalize e_L d 153 = K; generalize e_E d = E; rfl)
set_option maxRecDepth 20000 in
theorem B153_26 {d : Nat} {I : Nat → Nat → Int32} {z : e_Z} {x1 y1 : Int32}  : e_L d 153 26 [.ref 1, .int x1] [.int y1, .ref (bd z.2.1.1 + 1)] (mk I z) = (e_rI (e_E d 39 [.ref (bd z.2.1.1 + 1), .int y1, .int (I 51 0)] (mk I z)) (fun v σ => e_L d 153 39 [.ref 1, .int x1] [.int v] σ) (e_H (e_L d 153) 153 36 [.ref 1, .int x1])) := by
  rcases z with ⟨J, ⟨_|_, rb, fb, tt⟩, cs, X⟩
  all_goals exact e_L_to hd153 5 (by generalize e_L d 153 = K; generalize e_E d = E; rfl)
set_option maxRecDepth 20000 in
theorem B153_39 {d : Nat} {I : Nat → Nat → Int32} {z : e_Z} {x1 y0 : Int32}  : e_L d 153 39 [.ref 1, .int x1] [.int y0] (mk I z) = (some (.inl (some (.int y0)), mk I z)) := e_L_to hd153 1 (by generalize e_L d 153 = K; generalize e_E d = E; rfl)
def hd154 : List Nat := [0, 5, 27, 32, 44]
set_option maxRecDepth 20000 in
theorem B154_0 {d : Nat} {I : Nat → Nat → Int32} {z : e_Z} {x1 x2 x3 : Int32}  : e_L d 154 0 [.ref 1, .int x1, .int x2, .int x3] [] (mk I z) = (e_rV (e_E d 167 [.ref 1, .int x1] (mk I z)) (fun σ => e_L d 154 5 [.ref 1, .int x1, .int x2, .int x3] [] σ) (e_H (e_L d 154) 154 2 [.ref 1, .int x1, .int x2, .int x3])) := e_L_to hd154 3 (by generalize e_L d 154 = K; generalize e_E d = E; rfl)
set_option maxRecDepth 20000 in
theorem B154_5 {d : Nat} {I : Nat → Nat → Int32} {z : e_Z} {x1 x2 x3 : Int32}  : e_L d 154 5 [.ref 1, .int x1, .int x2, .int x3] [] (mk I z) = (if e_cc .ge (I 50 4) (e_n 8) = true then (e_L d 154 27 [.ref 1, .int x1, .int x2, .int x3] [] (mk I z)) else (if e_cc .lt x2 0 = true then (e_L d 154 27 [.ref 1, .int x1, .int x2, .int x3] [] (mk I z)) else (if e_cc .lt x2 (e_n 30) = true then (e_rV (e_E d 99 [.ref 50, .int x1, .int x2, .int x3] (mk I z)) (fun σ => e_L d 154 44 [.ref 1, .int x1, .int x2, .int x3] [] σ) (e_H (e_L d 154) 154 41 [.ref 1, .int x1, .int x2, .int x3])) else (e_L d 154 27 [.ref 1, .int x1, .int x2, .int x3] [] (mk I z))))) := e_L_to hd154 16 (by generalize e_L d 154 = K; generalize e_E d = E; rfl)
set_option maxRecDepth 20000 in
theorem B154_27 {d : Nat} {I : Nat → Nat → Int32} {z : e_Z} {x1 x2 x3 : Int32}  : e_L d 154 27 [.ref 1, .int x1, .int x2, .int x3] [] (mk I z) = (e_rV (e_E d 120 [.ref 1, .int (e_n 2)] (mk I z)) (fun σ => e_L d 154 32 [.ref 1, .int x1, .int x2, .int x3] [] σ) (e_H (e_L d 154) 154 29 [.ref 1, .int x1, .int x2, .int x3])) := e_L_to hd154 3 (by generalize e_L d 154 = K; generalize e_E d = E; rfl)
set_option maxRecDepth 20000 in
theorem B154_32 {d : Nat} {I : Nat → Nat → Int32} {z : e_Z} {x1 x2 x3 : Int32}  : e_L d 154 32 [.ref 1, .int x1, .int x2, .int x3] [] (mk I z) = (some (.inl (some (.int (e_n (-1)))), mk I z)) := e_L_to hd154 2 (by generalize e_L d 154 = K; generalize e_E d = E; rfl)
set_option maxRecDepth 20000 in
theorem B154_44 {d : Nat} {I : Nat → Nat → Int32} {z : e_Z} {x1 x2 x3 : Int32}  : e_L d 154 44 [.ref 1, .int x1, .int x2, .int x3] [] (mk I z) = (some (.inl (some (.int (I 50 4))), mk I z)) := e_L_to hd154 4 (by generalize e_L d 154 = K; generalize e_E d = E; rfl)
def hd155 : List Nat := [0]
set_option maxRecDepth 20000 in
theorem B155_0 {d : Nat} {I : Nat → Nat → Int32} {z : e_Z}  : e_L d 155 0 [.ref 1] [] (mk I z) = (some (.inl none, mk (e_u I 50 4 (e_n 0)) z)) := e_L_to hd155 5 (by generalize e_L d 155 = K; generalize e_E d = E; rfl)
def hd156 : List Nat := [0, 5, 14, 25, 33, 53, 74]
set_option maxRecDepth 20000 in
theorem B156_0 {d : Nat} {I : Nat → Nat → Int32} {z : e_Z} {x1 : Int32}  : e_L d 156 0 [.ref 1, .int x1] [] (mk I z) = (e_rV (e_E d 168 [.int x1, .int (e_n 3)] (mk I z)) (fun σ => e_L d 156 5 [.ref 1, .int x1] [] σ) (e_H (e_L d 156) 156 2 [.ref 1, .int x1])) := e_L_to hd156 3 (by generalize e_L d 156 = K; generalize e_E d = E; rfl)
set_option maxRecDepth 20000 in
theorem B156_5 {d : Nat} {I : Nat → Nat → Int32} {z : e_Z} {x1 : Int32}  : e_L d 156 5 [.ref 1, .int x1] [] (mk I z) = (if e_cc .ne x1 (e_n 2) = true then (e_rV (e_E d 22 [.ref 481, .ref (bd z.2.1.1), .ref 50, .ref 470] (mk I z)) (fun σ => e_L d 156 53 [.ref 1, .int x1] [] σ) (e_H (e_L d 156) 156 50 [.ref 1, .int x1])) else (e_rV (e_E d 135 [.ref 1] (mk I z)) (fun σ => e_L d 156 14 [.ref 1, .int x1] [] σ) (e_H (e_L d 156) 156 11 [.ref 1, .int x1]))) := e_L_to hd156 12 (by generalize e_L d 156 = K; generalize e_E d = E; rfl)
set_option maxRecDepth 20000 in
theorem B156_14 {d : Nat} {I : Nat → Nat → Int32} {z : e_Z} {x1 : Int32}  : e_L d 156 14 [.ref 1, .int x1] [] (mk I z) = (e_rI (e_E d 100 [.ref 50, .ref 470] (mk I z)) (fun v σ => e_L d 156 25 [.ref 1, .int x1] [.int v] σ) (e_H (e_L d 156) 156 22 [.ref 1, .int x1])) := e_L_to hd156 5 (by generalize e_L d 156 = K; generalize e_E d = E; rfl)
set_option maxRecDepth 20000 in
theorem B156_25 {d : Nat} {I : Nat → Nat → Int32} {z : e_Z} {x1 y0 : Int32}  : e_L d 156 25 [.ref 1, .int x1] [.int y0] (mk I z) = (if e_cc .eq y0 0 = true then (e_L d 156 33 [.ref 1, .int x1] [.int (e_n 0)] (mk I z)) else (e_L d 156 33 [.ref 1, .int x1] [.int (e_n 1)] (mk I z))) := e_L_to hd156 3 (by generalize e_L d 156 = K; generalize e_E d = E; rfl)
set_option maxRecDepth 20000 in
theorem B156_33 {d : Nat} {I : Nat → Nat → Int32} {z : e_Z} {x1 y0 : Int32}  : e_L d 156 33 [.ref 1, .int x1] [.int y0] (mk I z) = (some (.inl (some (.int y0)), mk I z)) := e_L_to hd156 1 (by generalize e_L d 156 = K; generalize e_E d = E; rfl)
set_option maxRecDepth 20000 in
theorem B156_53 {d : Nat} {I : Nat → Nat → Int32} {z : e_Z} {x1 : Int32}  : e_L d 156 53 [.ref 1, .int x1] [] (mk I z) = (if e_cc .ne x1 0 = true then (e_L d 156 74 [.ref 1, .int x1] [.int (I 481 1)] (mk I z)) else (e_L d 156 74 [.ref 1, .int x1] [.int (I 481 0)] (mk I z))) := e_L_to hd156 6 (by generalize e_L d 156 = K; generalize e_E d = E; rfl)
set_option maxRecDepth 20000 in
theorem B156_74 {d : Nat} {I : Nat → Nat → Int32} {z : e_Z} {x1 y0 : Int32}  : e_L d 156 74 [.ref 1, .int x1] [.int y0] (mk I z) = (some (.inl (some (.int y0)), mk I z)) := e_L_to hd156 1 (by generalize e_L d 156 = K; generalize e_E d = E; rfl)
def hd157 : List Nat := [0, 5, 24, 31, 52, 66, 81]
set_option maxRecDepth 20000 in
theorem B157_0 {d : Nat} {I : Nat → Nat → Int32} {z : e_Z} {x1 : Int32}  : e_L d 157 0 [.ref 1, .int x1, .null, .null, .null, .null] [] (mk I z) = (e_rV (e_E d 168 [.int x1, .int (e_n 2)] (mk I z)) (fun σ => e_L d 157 5 [.ref 1, .int x1, .null, .null, .null, .null] [] σ) (e_H (e_L d 157) 157 2 [.ref 1, .int x1, .null, .null, .null, .null])) := e_L_to hd157 3 (by generalize e_L d 157 = K; generalize e_E d = E; rfl)
set_option maxRecDepth 20000 in
theorem B157_5 {d : Nat} {I : Nat → Nat → Int32} {z : e_Z} {x1 : Int32}  : e_L d 157 5 [.ref 1, .int x1, .null, .null, .null, .null] [] (mk I z) = (e_rV (e_E d 22 [.ref 481, .ref (bd z.2.1.1), .ref 50, .ref 470] (mk I z)) (fun σ => e_L d 157 24 [.ref 1, .int x1, .null, .null, .null, .null] [] σ) (e_H (e_L d 157) 157 21 [.ref 1, .int x1, .null, .null, .null, .null])) := e_L_to hd157 9 (by generalize e_L d 157 = K; generalize e_E d = E; rfl)
set_option maxRecDepth 20000 in
theorem B157_24 {d : Nat} {I : Nat → Nat → Int32} {z : e_Z} {x1 : Int32}  : e_L d 157 24 [.ref 1, .int x1, .null, .null, .null, .null] [] (mk I z) = (e_L d 157 31 [.ref 1, .int x1, .int (e_n (-1)), .int (e_n 0), .int (e_n 0), .null] [] (mk I z)) := e_L_to hd157 6 (by generalize e_L d 157 = K; generalize e_E d = E; rfl)
set_option maxRecDepth 20000 in
theorem B157_31 {d : Nat} {I : Nat → Nat → Int32} {z : e_Z} {x1 x2 x3 x4 : Int32} {u5 : Value}  : e_L d 157 31 [.ref 1, .int x1, .int x2, .int x3, .int x4, u5] [] (mk I z) = (if e_cc .ge x4 (I 481 2) = true then (if e_cc .ne x1 0 = true then (e_L d 157 81 [.ref 1, .int x1, .int x2, .int x3, .int x4, u5] [.int x3] (mk I z)) else (e_L d 157 81 [.ref 1, .int x1, .int x2, .int x3, .int x4, u5] [.int x2] (mk I z))) else (e_rI (e_E d 24 [.ref 481, .int x4] (mk I z)) (fun v σ => e_L d 157 52 [.ref 1, .int x1, .int x2, .int x3, .int x4, u5] [.int v] σ) (e_H (e_L d 157) 157 49 [.ref 1, .int x1, .int x2, .int x3, .int x4, u5]))) := e_L_to hd157 9 (by generalize e_L d 157 = K; generalize e_E d = E; rfl)
set_option maxRecDepth 20000 in
theorem B157_52 {d : Nat} {I : Nat → Nat → Int32} {z : e_Z} {x1 x2 x3 x4 y0 : Int32} {u5 : Value}  : e_L d 157 52 [.ref 1, .int x1, .int x2, .int x3, .int x4, u5] [.int y0] (mk I z) = (if e_cc .le y0 x3 = true then (e_L d 157 66 [.ref 1, .int x1, .int x2, .int x3, .int x4, .int y0] [] (mk I z)) else (e_L d 157 66 [.ref 1, .int x1, .int x4, .int y0, .int x4, .int y0] [] (mk I z))) := e_L_to hd157 8 (by generalize e_L d 157 = K; generalize e_E d = E; rfl)
set_option maxRecDepth 20000 in
theorem B157_66 {d : Nat} {I : Nat → Nat → Int32} {z : e_Z} {x1 x2 x3 x4 x5 : Int32}  : e_L d 157 66 [.ref 1, .int x1, .int x2, .int x3, .int x4, .int x5] [] (mk I z) = (e_L d 157 31 [.ref 1, .int x1, .int x2, .int x3, .int (x4 + e_n 1), .int x5] [] (mk I z)) := e_L_to hd157 2 (by generalize e_L d 157 = K; generalize e_E d = E; rfl)
set_option maxRecDepth 20000 in
theorem B157_81 {d : Nat} {I : Nat → Nat → Int32} {z : e_Z} {x1 x2 x3 x4 y0 : Int32} {u5 : Value}  : e_L d 157 81 [.ref 1, .int x1, .int x2, .int x3, .int x4, u5] [.int y0] (mk I z) = (some (.inl (some (.int y0)), mk I z)) := e_L_to hd157 1 (by generalize e_L d 157 = K; generalize e_E d = E; rfl)
def hd158 : List Nat := [0, 11, 26, 32, 44, 48, 51, 56, 88, 94]
set_option maxRecDepth 20000 in
theorem B158_0 {d : Nat} {I : Nat → Nat → Int32} {z : e_Z} {x1 : Int32}  : e_L d 158 0 [.ref 1, .int x1, .null, .null, .null] [] (mk I z) = (if e_cc .lt x1 0 = true then (e_L d 158 11 [.ref 1, .int x1, .null, .null, .null] [] (mk I z)) else (if e_cc .le x1 (e_n 999) = true then (e_L d 158 26 [.ref 1, .int x1, .int (e_n (-1)), .int (e_n 0), .null] [] (mk I z)) else (e_L d 158 11 [.ref 1, .int x1, .null, .null, .null] [] (mk I z)))) := e_L_to hd158 9 (by generalize e_L d 158 = K; generalize e_E d = E; rfl)
set_option maxRecDepth 20000 in
theorem B158_11 {d : Nat} {I : Nat → Nat → Int32} {z : e_Z} {x1 : Int32}  : e_L d 158 11 [.ref 1, .int x1, .null, .null, .null] [] (mk I z) = (some (.inr 1, e_exc (mk I z))) := e_L_to hd158 1 (by generalize e_L d 158 = K; generalize e_E d = E; rfl)
set_option maxRecDepth 20000 in
theorem B158_26 {d : Nat} {I : Nat → Nat → Int32} {z : e_Z} {x1 x2 x3 : Int32} {u4 : Value}  : e_L d 158 26 [.ref 1, .int x1, .int x2, .int x3, u4] [] (mk I z) = (e_rI (e_E d 173 [.int (e_n 9)] (mk I z)) (fun v σ => e_L d 158 32 [.ref 1, .int x1, .int x2, .int x3, u4] [.int v, .int x3] σ) (e_H (e_L d 158) 158 29 [.ref 1, .int x1, .int x2, .int x3, u4])) := e_L_to hd158 3 (by generalize e_L d 158 = K; generalize e_E d = E; rfl)
set_option maxRecDepth 20000 in
theorem B158_32 {d : Nat} {I : Nat → Nat → Int32} {z : e_Z} {x1 x2 x3 y0 y1 : Int32} {u4 : Value}  : e_L d 158 32 [.ref 1, .int x1, .int x2, .int x3, u4] [.int y1, .int y0] (mk I z) = (if e_cc .ge y0 y1 = true then (some (.inl (some (.int x2)), mk I z)) else (if e_cc .eq x2 (e_n (-1)) = true then (e_L d 158 51 [.ref 1, .int x1, .int x2, .int x3, u4] [] (mk I z)) else (e_rI (e_E d 329 [.int x3] (mk I z)) (fun v σ => e_L d 158 44 [.ref 1, .int x1, .int x2, .int x3, u4] [.int v] σ) (e_H (e_L d 158) 158 41 [.ref 1, .int x1, .int x2, .int x3, u4])))) := e_L_to hd158 6 (by generalize e_L d 158 = K; generalize e_E d = E; rfl)
set_option maxRecDepth 20000 in
theorem B158_44 {d : Nat} {I : Nat → Nat → Int32} {z : e_Z} {x1 x2 x3 y0 : Int32} {u4 : Value}  : e_L d 158 44 [.ref 1, .int x1, .int x2, .int x3, u4] [.int y0] (mk I z) = (e_rI (e_E d 329 [.int x2] (mk I z)) (fun v σ => e_L d 158 48 [.ref 1, .int x1, .int x2, .int x3, u4] [.int v, .int y0] σ) (e_H (e_L d 158) 158 45 [.ref 1, .int x1, .int x2, .int x3, u4])) := e_L_to hd158 2 (by generalize e_L d 158 = K; generalize e_E d = E; rfl)
set_option maxRecDepth 20000 in
theorem B158_48 {d : Nat} {I : Nat → Nat → Int32} {z : e_Z} {x1 x2 x3 y0 y1 : Int32} {u4 : Value}  : e_L d 158 48 [.ref 1, .int x1, .int x2, .int x3, u4] [.int y1, .int y0] (mk I z) = (if e_cc .ge y0 y1 = true then (e_L d 158 56 [.ref 1, .int x1, .int x2, .int x3, u4] [.int (e_n 0)] (mk I z)) else (e_L d 158 51 [.ref 1, .int x1, .int x2, .int x3, u4] [] (mk I z))) := e_L_to hd158 2 (by generalize e_L d 158 = K; generalize e_E d = E; rfl)
set_option maxRecDepth 20000 in
theorem B158_51 {d : Nat} {I : Nat → Nat → Int32} {z : e_Z} {x1 x2 x3 : Int32} {u4 : Value}  : e_L d 158 51 [.ref 1, .int x1, .int x2, .int x3, u4] [] (mk I z) = (e_L d 158 56 [.ref 1, .int x1, .int x2, .int x3, u4] [.int (e_n 1)] (mk I z)) := e_L_to hd158 2 (by generalize e_L d 158 = K; generalize e_E d = E; rfl)
set_option maxRecDepth 20000 in
theorem B158_56 {d : Nat} {I : Nat → Nat → Int32} {z : e_Z} {x1 x2 x3 y0 : Int32} {u4 : Value}  : e_L d 158 56 [.ref 1, .int x1, .int x2, .int x3, u4] [.int y0] (mk I z) = (if e_cc .ne (x3 &&& ((I 51 2) ^^^ (e_n (-1)))) 0 = true then (e_L d 158 94 [.ref 1, .int x1, .int x2, .int x3, .int y0] [] (mk I z)) else (if e_cc .eq y0 0 = true then (e_L d 158 94 [.ref 1, .int x1, .int x2, .int x3, .int y0] [] (mk I z)) else (e_rI (e_E d 9 [.ref (bd z.2.1.1), .int x3] (mk I z)) (fun v σ => e_L d 158 88 [.ref 1, .int x1, .int x2, .int x3, .int y0] [.int v] σ) (e_H (e_L d 158) 158 85 [.ref 1, .int x1, .int x2, .int x3, .int y0])))) := by
  rcases z with ⟨J, ⟨_|_, rb, fb, tt⟩, cs, X⟩
  all_goals exact e_L_to hd158 16 (by generalize e_L d 158 = K; generalize e_E d = E; rfl)
set_option maxRecDepth 20000 in
theorem B158_88 {d : Nat} {I : Nat → Nat → Int32} {z : e_Z} {x1 x2 x3 x4 y0 : Int32}  : e_L d 158 88 [.ref 1, .int x1, .int x2, .int x3, .int x4] [.int y0] (mk I z) = (if e_cc .ne y0 x1 = true then (e_L d 158 94 [.ref 1, .int x1, .int x2, .int x3, .int x4] [] (mk I z)) else (e_L d 158 94 [.ref 1, .int x1, .int x3, .int x3, .int x4] [] (mk I z))) := e_L_to hd158 4 (by generalize e_L d 158 = K; generalize e_E d = E; rfl)
set_option maxRecDepth 20000 in
theorem B158_94 {d : Nat} {I : Nat → Nat → Int32} {z : e_Z} {x1 x2 x3 x4 : Int32}  : e_L d 158 94 [.ref 1, .int x1, .int x2, .int x3, .int x4] [] (mk I z) = (e_L d 158 26 [.ref 1, .int x1, .int x2, .int (x3 + e_n 1), .int x4] [] (mk I z)) := e_L_to hd158 2 (by generalize e_L d 158 = K; generalize e_E d = E; rfl)
def hd159 : List Nat := [0, 5, 10, 15, 49, 69, 88, 93, 100, 101, 120, 125, 132, 133, 144, 178, 181, 201, 204, 220, 237]
set_option maxRecDepth 20000 in
theorem B159_0 {d : Nat} {I : Nat → Nat → Int32} {z : e_Z} {x1 x2 x3 : Int32}  : e_L d 159 0 [.ref 1, .int x1, .int x2, .int x3, .null, .null, .null, .null, .null, .null, .null, .null, .null] [] (mk I z) = (e_rV (e_E d 164 [.ref 1, .int x1] (mk I z)) (fun σ => e_L d 159 5 [.ref 1, .int x1, .int x2, .int x3, .null, .null, .null, .null, .null, .null, .null, .null, .null] [] σ) (e_H (e_L d 159) 159 2 [.ref 1, .int x1, .int x2, .int x3, .null, .null, .null, .null, .null, .null, .null, .null, .null])) := e_L_to hd159 3 (by generalize e_L d 159 = K; generalize e_E d = E; rfl)
set_option maxRecDepth 20000 in
theorem B159_5 {d : Nat} {I : Nat → Nat → Int32} {z : e_Z} {x1 x2 x3 : Int32}  : e_L d 159 5 [.ref 1, .int x1, .int x2, .int x3, .null, .null, .null, .null, .null, .null, .null, .null, .null] [] (mk I z) = (e_rV (e_E d 164 [.ref 1, .int x2] (mk I z)) (fun σ => e_L d 159 10 [.ref 1, .int x1, .int x2, .int x3, .null, .null, .null, .null, .null, .null, .null, .null, .null] [] σ) (e_H (e_L d 159) 159 7 [.ref 1, .int x1, .int x2, .int x3, .null, .null, .null, .null, .null, .null, .null, .null, .null])) := e_L_to hd159 3 (by generalize e_L d 159 = K; generalize e_E d = E; rfl)
set_option maxRecDepth 20000 in
theorem B159_10 {d : Nat} {I : Nat → Nat → Int32} {z : e_Z} {x1 x2 x3 : Int32}  : e_L d 159 10 [.ref 1, .int x1, .int x2, .int x3, .null, .null, .null, .null, .null, .null, .null, .null, .null] [] (mk I z) = (e_rV (e_E d 168 [.int x3, .int (e_n 2)] (mk I z)) (fun σ => e_L d 159 15 [.ref 1, .int x1, .int x2, .int x3, .null, .null, .null, .null, .null, .null, .null, .null, .null] [] σ) (e_H (e_L d 159) 159 12 [.ref 1, .int x1, .int x2, .int x3, .null, .null, .null, .null, .null, .null, .null, .null, .null])) := e_L_to hd159 3 (by generalize e_L d 159 = K; generalize e_E d = E; rfl)
set_option maxRecDepth 20000 in
theorem B159_15 {d : Nat} {I : Nat → Nat → Int32} {z : e_Z} {x1 x2 x3 : Int32}  : e_L d 159 15 [.ref 1, .int x1, .int x2, .int x3, .null, .null, .null, .null, .null, .null, .null, .null, .null] [] (mk I z) = (if e_cc .ne x1 x2 = true then (e_rI (e_E d 10 [.ref (bd z.2.1.1), .int (I 51 1), .int x1] (mk I z)) (fun v σ => e_L d 159 49 [.ref 1, .int x1, .int x2, .int x3, .null, .null, .null, .null, .null, .null, .null, .null, .null] [.int v] σ) (e_H (e_L d 159) 159 46 [.ref 1, .int x1, .int x2, .int x3, .null, .null, .null, .null, .null, .null, .null, .null, .null])) else (some (.inr 1, e_exc (mk I z)))) := by
  rcases z with ⟨J, ⟨_|_, rb, fb, tt⟩, cs, X⟩
  all_goals exact e_L_to hd159 11 (by generalize e_L d 159 = K; generalize e_E d = E; rfl)
set_option maxRecDepth 20000 in
theorem B159_49 {d : Nat} {I : Nat → Nat → Int32} {z : e_Z} {x1 x2 x3 y0 : Int32}  : e_L d 159 49 [.ref 1, .int x1, .int x2, .int x3, .null, .null, .null, .null, .null, .null, .null, .null, .null] [.int y0] (mk I z) = (e_rI (e_E d 10 [.ref (bd z.2.1.1), .int (I 51 1), .int x2] (mk I z)) (fun v σ => e_L d 159 69 [.ref 1, .int x1, .int x2, .int x3, .int y0, .null, .null, .null, .null, .null, .null, .null, .null] [.int v] σ) (e_H (e_L d 159) 159 66 [.ref 1, .int x1, .int x2, .int x3, .int y0, .null, .null, .null, .null, .null, .null, .null, .null])) := by
  rcases z with ⟨J, ⟨_|_, rb, fb, tt⟩, cs, X⟩
  all_goals exact e_L_to hd159 9 (by generalize e_L d 159 = K; generalize e_E d = E; rfl)
set_option maxRecDepth 20000 in
theorem B159_69 {d : Nat} {I : Nat → Nat → Int32} {z : e_Z} {x1 x2 x3 x4 y0 : Int32}  : e_L d 159 69 [.ref 1, .int x1, .int x2, .int x3, .int x4, .null, .null, .null, .null, .null, .null, .null, .null] [.int y0] (mk I z) = (if e_cc .eq y0 (e_n (-1)) = true then (e_L d 159 100 [.ref 1, .int x1, .int x2, .int x3, .int x4, .int y0, .null, .null, .null, .null, .null, .null, .null] [] (mk I z)) else (e_rI (e_E d 169 [.ref (bd z.2.1.1 + 14), .int x1] (mk I z)) (fun v σ => e_L d 159 88 [.ref 1, .int x1, .int x2, .int x3, .int x4, .int y0, .null, .null, .null, .null, .null, .null, .null] [.int v] σ) (e_H (e_L d 159) 159 85 [.ref 1, .int x1, .int x2, .int x3, .int x4, .int y0, .null, .null, .null, .null, .null, .null, .null]))) := by
  rcases z with ⟨J, ⟨_|_, rb, fb, tt⟩, cs, X⟩
  all_goals exact e_L_to hd159 9 (by generalize e_L d 159 = K; generalize e_E d = E; rfl)
set_option maxRecDepth 20000 in
theorem B159_88 {d : Nat} {I : Nat → Nat → Int32} {z : e_Z} {x1 x2 x3 x4 x5 y0 : Int32}  : e_L d 159 88 [.ref 1, .int x1, .int x2, .int x3, .int x4, .int x5, .null, .null, .null, .null, .null, .null, .null] [.int y0] (mk I z) = (e_rI (e_E d 174 [.int y0, .int x5] (mk I z)) (fun v σ => e_L d 159 93 [.ref 1, .int x1, .int x2, .int x3, .int x4, .int x5, .null, .null, .null, .null, .null, .null, .null] [.int v] σ) (e_H (e_L d 159) 159 90 [.ref 1, .int x1, .int x2, .int x3, .int x4, .int x5, .null, .null, .null, .null, .null, .null, .null])) := e_L_to hd159 2 (by generalize e_L d 159 = K; generalize e_E d = E; rfl)
set_option maxRecDepth 20000 in
theorem B159_93 {d : Nat} {I : Nat → Nat → Int32} {z : e_Z} {x1 x2 x3 x4 x5 y0 : Int32}  : e_L d 159 93 [.ref 1, .int x1, .int x2, .int x3, .int x4, .int x5, .null, .null, .null, .null, .null, .null, .null] [.int y0] (mk I z) = (if e_cc .eq y0 0 = true then (e_L d 159 100 [.ref 1, .int x1, .int x2, .int x3, .int x4, .int x5, .null, .null, .null, .null, .null, .null, .null] [] (mk I z)) else (e_L d 159 101 [.ref 1, .int x1, .int x2, .int x3, .int x4, .int x5, .null, .null, .null, .null, .null, .null, .null] [.int (e_n 5)] (mk I z))) := e_L_to hd159 3 (by generalize e_L d 159 = K; generalize e_E d = E; rfl)
set_option maxRecDepth 20000 in
theorem B159_100 {d : Nat} {I : Nat → Nat → Int32} {z : e_Z} {x1 x2 x3 x4 x5 : Int32}  : e_L d 159 100 [.ref 1, .int x1, .int x2, .int x3, .int x4, .int x5, .null, .null, .null, .null, .null, .null, .null] [] (mk I z) = (e_L d 159 101 [.ref 1, .int x1, .int x2, .int x3, .int x4, .int x5, .null, .null, .null, .null, .null, .null, .null] [.int (e_n 0)] (mk I z)) := e_L_to hd159 1 (by generalize e_L d 159 = K; generalize e_E d = E; rfl)
set_option maxRecDepth 20000 in
theorem B159_101 {d : Nat} {I : Nat → Nat → Int32} {z : e_Z} {x1 x2 x3 x4 x5 y0 : Int32}  : e_L d 159 101 [.ref 1, .int x1, .int x2, .int x3, .int x4, .int x5, .null, .null, .null, .null, .null, .null, .null] [.int y0] (mk I z) = (if e_cc .eq x4 (e_n (-1)) = true then (e_L d 159 132 [.ref 1, .int x1, .int x2, .int x3, .int x4, .int x5, .int y0, .null, .null, .null, .null, .null, .null] [] (mk I z)) else (e_rI (e_E d 169 [.ref (bd z.2.1.1 + 14), .int x2] (mk I z)) (fun v σ => e_L d 159 120 [.ref 1, .int x1, .int x2, .int x3, .int x4, .int x5, .int y0, .null, .null, .null, .null, .null, .null] [.int v] σ) (e_H (e_L d 159) 159 117 [.ref 1, .int x1, .int x2, .int x3, .int x4, .int x5, .int y0, .null, .null, .null, .null, .null, .null]))) := by
  rcases z with ⟨J, ⟨_|_, rb, fb, tt⟩, cs, X⟩
  all_goals exact e_L_to hd159 9 (by generalize e_L d 159 = K; generalize e_E d = E; rfl)
set_option maxRecDepth 20000 in
theorem B159_120 {d : Nat} {I : Nat → Nat → Int32} {z : e_Z} {x1 x2 x3 x4 x5 x6 y0 : Int32}  : e_L d 159 120 [.ref 1, .int x1, .int x2, .int x3, .int x4, .int x5, .int x6, .null, .null, .null, .null, .null, .null] [.int y0] (mk I z) = (e_rI (e_E d 174 [.int y0, .int x4] (mk I z)) (fun v σ => e_L d 159 125 [.ref 1, .int x1, .int x2, .int x3, .int x4, .int x5, .int x6, .null, .null, .null, .null, .null, .null] [.int v] σ) (e_H (e_L d 159) 159 122 [.ref 1, .int x1, .int x2, .int x3, .int x4, .int x5, .int x6, .null, .null, .null, .null, .null, .null])) := e_L_to hd159 2 (by generalize e_L d 159 = K; generalize e_E d = E; rfl)
set_option maxRecDepth 20000 in
theorem B159_125 {d : Nat} {I : Nat → Nat → Int32} {z : e_Z} {x1 x2 x3 x4 x5 x6 y0 : Int32}  : e_L d 159 125 [.ref 1, .int x1, .int x2, .int x3, .int x4, .int x5, .int x6, .null, .null, .null, .null, .null, .null] [.int y0] (mk I z) = (if e_cc .eq y0 0 = true then (e_L d 159 132 [.ref 1, .int x1, .int x2, .int x3, .int x4, .int x5, .int x6, .null, .null, .null, .null, .null, .null] [] (mk I z)) else (e_L d 159 133 [.ref 1, .int x1, .int x2, .int x3, .int x4, .int x5, .int x6, .null, .null, .null, .null, .null, .null] [.int (e_n 5)] (mk I z))) := e_L_to hd159 3 (by generalize e_L d 159 = K; generalize e_E d = E; rfl)
set_option maxRecDepth 20000 in
theorem B159_132 {d : Nat} {I : Nat → Nat → Int32} {z : e_Z} {x1 x2 x3 x4 x5 x6 : Int32}  : e_L d 159 132 [.ref 1, .int x1, .int x2, .int x3, .int x4, .int x5, .int x6, .null, .null, .null, .null, .null, .null] [] (mk I z) = (e_L d 159 133 [.ref 1, .int x1, .int x2, .int x3, .int x4, .int x5, .int x6, .null, .null, .null, .null, .null, .null] [.int (e_n 0)] (mk I z)) := e_L_to hd159 1 (by generalize e_L d 159 = K; generalize e_E d = E; rfl)
set_option maxRecDepth 20000 in
theorem B159_133 {d : Nat} {I : Nat → Nat → Int32} {z : e_Z} {x1 x2 x3 x4 x5 x6 y0 : Int32}  : e_L d 159 133 [.ref 1, .int x1, .int x2, .int x3, .int x4, .int x5, .int x6, .null, .null, .null, .null, .null, .null] [.int y0] (mk I z) = (e_L d 159 144 [.ref 1, .int x1, .int x2, .int x3, .int x4, .int x5, .int x6, .int y0, .int (e_n 0), .int (e_n (-1)), .int (e_n 3), .null, .null] [] (mk I z)) := e_L_to hd159 7 (by generalize e_L d 159 = K; generalize e_E d = E; rfl)
set_option maxRecDepth 20000 in
theorem B159_144 {d : Nat} {I : Nat → Nat → Int32} {z : e_Z} {x1 x2 x3 x4 x5 x6 x7 x8 x9 x10 : Int32} {u11 u12 : Value}  : e_L d 159 144 [.ref 1, .int x1, .int x2, .int x3, .int x4, .int x5, .int x6, .int x7, .int x8, .int x9, .int x10, u11, u12] [] (mk I z) = (if e_cc .lt x10 0 = true then (if e_cc .ne x3 0 = true then (e_L d 159 237 [.ref 1, .int x1, .int x2, .int x3, .int x4, .int x5, .int x6, .int x7, .int x8, .int x9, .int x10, u11, u12] [.int x9] (mk I z)) else (e_L d 159 237 [.ref 1, .int x1, .int x2, .int x3, .int x4, .int x5, .int x6, .int x7, .int x8, .int x9, .int x10, u11, u12] [.int x8] (mk I z))) else (if e_cc .eq x4 (e_n (-1)) = true then (e_L d 159 178 [.ref 1, .int x1, .int x2, .int x3, .int x4, .int x5, .int x6, .int x7, .int x8, .int x9, .int x10, .int (e_shr x10 (e_n 1)), .int (x10 &&& (e_n 1))] [.int (e_n 0), .int x6, .int (x10 &&& (e_n 1)), .int (e_shr x10 (e_n 1))] (mk I z)) else (e_L d 159 178 [.ref 1, .int x1, .int x2, .int x3, .int x4, .int x5, .int x6, .int x7, .int x8, .int x9, .int x10, .int (e_shr x10 (e_n 1)), .int (x10 &&& (e_n 1))] [.int (e_n 1), .int x6, .int (x10 &&& (e_n 1)), .int (e_shr x10 (e_n 1))] (mk I z)))) := e_L_to hd159 18 (by generalize e_L d 159 = K; generalize e_E d = E; rfl)
set_option maxRecDepth 20000 in
theorem B159_178 {d : Nat} {I : Nat → Nat → Int32} {z : e_Z} {x1 x2 x3 x4 x5 x6 x7 x8 x9 x10 x11 x12 y0 y1 y2 y3 : Int32}  : e_L d 159 178 [.ref 1, .int x1, .int x2, .int x3, .int x4, .int x5, .int x6, .int x7, .int x8, .int x9, .int x10, .int x11, .int x12] [.int y3, .int y2, .int y1, .int y0] (mk I z) = (e_rI (e_E d 160 [.int y0, .int y1, .int y2, .int y3] (mk I z)) (fun v σ => e_L d 159 181 [.ref 1, .int x1, .int x2, .int x3, .int x4, .int x5, .int x6, .int x7, .int x8, .int x9, .int x10, .int x11, .int x12] [.int v] σ) (e_H (e_L d 159) 159 178 [.ref 1, .int x1, .int x2, .int x3, .int x4, .int x5, .int x6, .int x7, .int x8, .int x9, .int x10, .int x11, .int x12])) := e_L_to hd159 1 (by generalize e_L d 159 = K; generalize e_E d = E; rfl)
set_option maxRecDepth 20000 in
theorem B159_181 {d : Nat} {I : Nat → Nat → Int32} {z : e_Z} {x1 x2 x3 x4 x5 x6 x7 x8 x9 x10 x11 x12 y0 : Int32}  : e_L d 159 181 [.ref 1, .int x1, .int x2, .int x3, .int x4, .int x5, .int x6, .int x7, .int x8, .int x9, .int x10, .int x11, .int x12] [.int y0] (mk I z) = (if e_cc .eq y0 0 = true then (e_L d 159 220 [.ref 1, .int x1, .int x2, .int x3, .int x4, .int x5, .int x6, .int x7, .int x8, .int x9, .int x10, .int x11, .int x12] [] (mk I z)) else (if e_cc .eq x5 (e_n (-1)) = true then (e_L d 159 201 [.ref 1, .int x1, .int x2, .int x3, .int x4, .int x5, .int x6, .int x7, .int x8, .int x9, .int x10, .int x11, .int x12] [.int (e_n 0), .int x7, .int x11, .int x12] (mk I z)) else (e_L d 159 201 [.ref 1, .int x1, .int x2, .int x3, .int x4, .int x5, .int x6, .int x7, .int x8, .int x9, .int x10, .int x11, .int x12] [.int (e_n 1), .int x7, .int x11, .int x12] (mk I z)))) := e_L_to hd159 9 (by generalize e_L d 159 = K; generalize e_E d = E; rfl)
set_option maxRecDepth 20000 in
theorem B159_201 {d : Nat} {I : Nat → Nat → Int32} {z : e_Z} {x1 x2 x3 x4 x5 x6 x7 x8 x9 x10 x11 x12 y0 y1 y2 y3 : Int32}  : e_L d 159 201 [.ref 1, .int x1, .int x2, .int x3, .int x4, .int x5, .int x6, .int x7, .int x8, .int x9, .int x10, .int x11, .int x12] [.int y3, .int y2, .int y1, .int y0] (mk I z) = (e_rI (e_E d 160 [.int y0, .int y1, .int y2, .int y3] (mk I z)) (fun v σ => e_L d 159 204 [.ref 1, .int x1, .int x2, .int x3, .int x4, .int x5, .int x6, .int x7, .int x8, .int x9, .int x10, .int x11, .int x12] [.int v] σ) (e_H (e_L d 159) 159 201 [.ref 1, .int x1, .int x2, .int x3, .int x4, .int x5, .int x6, .int x7, .int x8, .int x9, .int x10, .int x11, .int x12])) := e_L_to hd159 1 (by generalize e_L d 159 = K; generalize e_E d = E; rfl)
set_option maxRecDepth 20000 in
theorem B159_204 {d : Nat} {I : Nat → Nat → Int32} {z : e_Z} {x1 x2 x3 x4 x5 x6 x7 x8 x9 x10 x11 x12 y0 : Int32}  : e_L d 159 204 [.ref 1, .int x1, .int x2, .int x3, .int x4, .int x5, .int x6, .int x7, .int x8, .int x9, .int x10, .int x11, .int x12] [.int y0] (mk I z) = (if e_cc .eq y0 0 = true then (e_L d 159 220 [.ref 1, .int x1, .int x2, .int x3, .int x4, .int x5, .int x6, .int x7, .int x8, .int x9, .int x10, .int x11, .int x12] [] (mk I z)) else (e_L d 159 220 [.ref 1, .int x1, .int x2, .int x3, .int x4, .int x5, .int x6, .int x7, .int (x8 + e_n 1), .int (((e_n 10) * x11) + x12), .int x10, .int x11, .int x12] [] (mk I z))) := e_L_to hd159 8 (by generalize e_L d 159 = K; generalize e_E d = E; rfl)
set_option maxRecDepth 20000 in
theorem B159_220 {d : Nat} {I : Nat → Nat → Int32} {z : e_Z} {x1 x2 x3 x4 x5 x6 x7 x8 x9 x10 x11 x12 : Int32}  : e_L d 159 220 [.ref 1, .int x1, .int x2, .int x3, .int x4, .int x5, .int x6, .int x7, .int x8, .int x9, .int x10, .int x11, .int x12] [] (mk I z) = (e_L d 159 144 [.ref 1, .int x1, .int x2, .int x3, .int x4, .int x5, .int x6, .int x7, .int x8, .int x9, .int (x10 + e_n (-1)), .int x11, .int x12] [] (mk I z)) := e_L_to hd159 2 (by generalize e_L d 159 = K; generalize e_E d = E; rfl)
set_option maxRecDepth 20000 in
theorem B159_237 {d : Nat} {I : Nat → Nat → Int32} {z : e_Z} {x1 x2 x3 x4 x5 x6 x7 x8 x9 x10 y0 : Int32} {u11 u12 : Value}  : e_L d 159 237 [.ref 1, .int x1, .int x2, .int x3, .int x4, .int x5, .int x6, .int x7, .int x8, .int x9, .int x10, u11, u12] [.int y0] (mk I z) = (some (.inl (some (.int y0)), mk I z)) := e_L_to hd159 1 (by generalize e_L d 159 = K; generalize e_E d = E; rfl)
def hd160 : List Nat := [0, 13, 22, 28, 36]
set_option maxRecDepth 20000 in
theorem B160_0 {d : Nat} {I : Nat → Nat → Int32} {z : e_Z} {x0 x1 x2 x3 : Int32}  : e_L d 160 0 [.int x0, .int x1, .int x2, .int x3] [] (mk I z) = (if e_cc .ne x3 0 = true then (e_rI (e_E d 161 [.int ((e_n 1) - x0), .int x1, .int x2] (mk I z)) (fun v σ => e_L d 160 22 [.int x0, .int x1, .int x2, .int x3] [.int v] σ) (e_H (e_L d 160) 160 19 [.int x0, .int x1, .int x2, .int x3])) else (if e_cc .ne x0 0 = true then (e_L d 160 13 [.int x0, .int x1, .int x2, .int x3] [.int (e_n 0)] (mk I z)) else (e_L d 160 13 [.int x0, .int x1, .int x2, .int x3] [.int (e_n 1)] (mk I z)))) := e_L_to hd160 8 (by generalize e_L d 160 = K; generalize e_E d = E; rfl)
set_option maxRecDepth 20000 in
theorem B160_13 {d : Nat} {I : Nat → Nat → Int32} {z : e_Z} {x0 x1 x2 x3 y0 : Int32}  : e_L d 160 13 [.int x0, .int x1, .int x2, .int x3] [.int y0] (mk I z) = (if y0 = 0 ∨ y0 = 1 then some (.inl (some (.int y0)), mk I z) else none) := e_L_to hd160 1 (by generalize e_L d 160 = K; generalize e_E d = E; rfl)
set_option maxRecDepth 20000 in
theorem B160_22 {d : Nat} {I : Nat → Nat → Int32} {z : e_Z} {x0 x1 x2 x3 y0 : Int32}  : e_L d 160 22 [.int x0, .int x1, .int x2, .int x3] [.int y0] (mk I z) = (e_rI (e_E d 161 [.int x0, .int x1, .int x2] (mk I z)) (fun v σ => e_L d 160 28 [.int x0, .int x1, .int x2, .int x3] [.int v, .int y0] σ) (e_H (e_L d 160) 160 25 [.int x0, .int x1, .int x2, .int x3])) := e_L_to hd160 4 (by generalize e_L d 160 = K; generalize e_E d = E; rfl)
set_option maxRecDepth 20000 in
theorem B160_28 {d : Nat} {I : Nat → Nat → Int32} {z : e_Z} {x0 x1 x2 x3 y0 y1 : Int32}  : e_L d 160 28 [.int x0, .int x1, .int x2, .int x3] [.int y1, .int y0] (mk I z) = (if e_cc .gt y0 y1 = true then (e_L d 160 36 [.int x0, .int x1, .int x2, .int x3] [.int (e_n 0)] (mk I z)) else (e_L d 160 36 [.int x0, .int x1, .int x2, .int x3] [.int (e_n 1)] (mk I z))) := e_L_to hd160 3 (by generalize e_L d 160 = K; generalize e_E d = E; rfl)
set_option maxRecDepth 20000 in
theorem B160_36 {d : Nat} {I : Nat → Nat → Int32} {z : e_Z} {x0 x1 x2 x3 y0 : Int32}  : e_L d 160 36 [.int x0, .int x1, .int x2, .int x3] [.int y0] (mk I z) = (if y0 = 0 ∨ y0 = 1 then some (.inl (some (.int y0)), mk I z) else none) := e_L_to hd160 1 (by generalize e_L d 160 = K; generalize e_E d = E; rfl)
def hd161 : List Nat := [0, 22, 23]
set_option maxRecDepth 20000 in
theorem B161_0 {d : Nat} {I : Nat → Nat → Int32} {z : e_Z} {x0 x1 x2 : Int32}  : e_L d 161 0 [.int x0, .int x1, .int x2, .null] [] (mk I z) = (if e_cc .ne x0 0 = true then (e_L d 161 22 [.int x0, .int x1, .int x2, .int ((x1 * x2) - ((e_n 3) * x0))] [] (mk I z)) else (if e_cc .ne x1 0 = true then (e_L d 161 22 [.int x0, .int x1, .int x2, .int ((x1 * x2) - ((e_n 3) * x0))] [] (mk I z)) else (e_L d 161 23 [.int x0, .int x1, .int x2, .int ((x1 * x2) - ((e_n 3) * x0))] [.int (((x1 * x2) - ((e_n 3) * x0)) - (e_n 1))] (mk I z)))) := e_L_to hd161 16 (by generalize e_L d 161 = K; generalize e_E d = E; rfl)
set_option maxRecDepth 20000 in
theorem B161_22 {d : Nat} {I : Nat → Nat → Int32} {z : e_Z} {x0 x1 x2 x3 : Int32}  : e_L d 161 22 [.int x0, .int x1, .int x2, .int x3] [] (mk I z) = (e_L d 161 23 [.int x0, .int x1, .int x2, .int x3] [.int x3] (mk I z)) := e_L_to hd161 1 (by generalize e_L d 161 = K; generalize e_E d = E; rfl)
set_option maxRecDepth 20000 in
theorem B161_23 {d : Nat} {I : Nat → Nat → Int32} {z : e_Z} {x0 x1 x2 x3 y0 : Int32}  : e_L d 161 23 [.int x0, .int x1, .int x2, .int x3] [.int y0] (mk I z) = (some (.inl (some (.int y0)), mk I z)) := e_L_to hd161 1 (by generalize e_L d 161 = K; generalize e_E d = E; rfl)
def hd162 : List Nat := [0, 5, 15, 46, 72, 85, 86, 100, 101]
set_option maxRecDepth 20000 in
theorem B162_0 {d : Nat} {I : Nat → Nat → Int32} {z : e_Z} {x1 x2 x3 : Int32}  : e_L d 162 0 [.ref 1, .int x1, .int x2, .int x3] [] (mk I z) = (e_rV (e_E d 168 [.int x3, .int (e_n 3)] (mk I z)) (fun σ => e_L d 162 5 [.ref 1, .int x1, .int x2, .int x3] [] σ) (e_H (e_L d 162) 162 2 [.ref 1, .int x1, .int x2, .int x3])) := e_L_to hd162 3 (by generalize e_L d 162 = K; generalize e_E d = E; rfl)
set_option maxRecDepth 20000 in
theorem B162_5 {d : Nat} {I : Nat → Nat → Int32} {z : e_Z} {x1 x2 x3 : Int32}  : e_L d 162 5 [.ref 1, .int x1, .int x2, .int x3] [] (mk I z) = (if e_cc .lt x2 0 = true then (e_L d 162 15 [.ref 1, .int x1, .int x2, .int x3] [] (mk I z)) else (if e_cc .le x2 (e_n 60) = true then (e_rV (e_E d 41 [.ref 483, .ref (bd z.2.1.1), .ref 51, .int x1, .int x2] (mk I z)) (fun σ => e_L d 162 46 [.ref 1, .int x1, .int x2, .int x3] [] σ) (e_H (e_L d 162) 162 43 [.ref 1, .int x1, .int x2, .int x3])) else (e_L d 162 15 [.ref 1, .int x1, .int x2, .int x3] [] (mk I z)))) := e_L_to hd162 15 (by generalize e_L d 162 = K; generalize e_E d = E; rfl)
set_option maxRecDepth 20000 in
theorem B162_15 {d : Nat} {I : Nat → Nat → Int32} {z : e_Z} {x1 x2 x3 : Int32}  : e_L d 162 15 [.ref 1, .int x1, .int x2, .int x3] [] (mk I z) = (some (.inr 1, e_exc (mk I z))) := e_L_to hd162 1 (by generalize e_L d 162 = K; generalize e_E d = E; rfl)
set_option maxRecDepth 20000 in
theorem B162_46 {d : Nat} {I : Nat → Nat → Int32} {z : e_Z} {x1 x2 x3 : Int32}  : e_L d 162 46 [.ref 1, .int x1, .int x2, .int x3] [] (mk I z) = (e_L d 162 (e_sel [(0, 72), (1, 86)] 101 x3) [.ref 1, .int x1, .int x2, .int x3] [] (mk I z)) := e_L_to hd162 1 (by generalize e_L d 162 = K; generalize e_E d = E; rfl)
set_option maxRecDepth 20000 in
theorem B162_72 {d : Nat} {I : Nat → Nat → Int32} {z : e_Z} {x1 x2 x3 : Int32}  : e_L d 162 72 [.ref 1, .int x1, .int x2, .int x3] [] (mk I z) = (e_rI (e_E d 329 [.int (I 484 2)] (mk I z)) (fun v σ => e_L d 162 85 [.ref 1, .int x1, .int x2, .int x3] [.int v] σ) (e_H (e_L d 162) 162 82 [.ref 1, .int x1, .int x2, .int x3])) := e_L_to hd162 5 (by generalize e_L d 162 = K; generalize e_E d = E; rfl)
set_option maxRecDepth 20000 in
theorem B162_85 {d : Nat} {I : Nat → Nat → Int32} {z : e_Z} {x1 x2 x3 y0 : Int32}  : e_L d 162 85 [.ref 1, .int x1, .int x2, .int x3] [.int y0] (mk I z) = (some (.inl (some (.int y0)), mk I z)) := e_L_to hd162 1 (by generalize e_L d 162 = K; generalize e_E d = E; rfl)
set_option maxRecDepth 20000 in
theorem B162_86 {d : Nat} {I : Nat → Nat → Int32} {z : e_Z} {x1 x2 x3 : Int32}  : e_L d 162 86 [.ref 1, .int x1, .int x2, .int x3] [] (mk I z) = (e_rI (e_E d 58 [.ref 484, .ref (bd z.2.1.1)] (mk I z)) (fun v σ => e_L d 162 100 [.ref 1, .int x1, .int x2, .int x3] [.int v] σ) (e_H (e_L d 162) 162 97 [.ref 1, .int x1, .int x2, .int x3])) := e_L_to hd162 6 (by generalize e_L d 162 = K; generalize e_E d = E; rfl)
set_option maxRecDepth 20000 in
theorem B162_100 {d : Nat} {I : Nat → Nat → Int32} {z : e_Z} {x1 x2 x3 y0 : Int32}  : e_L d 162 100 [.ref 1, .int x1, .int x2, .int x3] [.int y0] (mk I z) = (some (.inl (some (.int y0)), mk I z)) := e_L_to hd162 1 (by generalize e_L d 162 = K; generalize e_E d = E; rfl)
set_option maxRecDepth 20000 in
theorem B162_101 {d : Nat} {I : Nat → Nat → Int32} {z : e_Z} {x1 x2 x3 : Int32}  : e_L d 162 101 [.ref 1, .int x1, .int x2, .int x3] [] (mk I z) = (some (.inl (some (.int (I 483 1))), mk I z)) := e_L_to hd162 4 (by generalize e_L d 162 = K; generalize e_E d = E; rfl)
def hd163 : List Nat := [0, 5, 10, 14, 18, 30, 45]
set_option maxRecDepth 20000 in
theorem B163_0 {d : Nat} {I : Nat → Nat → Int32} {z : e_Z} {x1 x2 : Int32}  : e_L d 163 0 [.ref 1, .int x1, .int x2, .null, .null] [] (mk I z) = (e_rV (e_E d 167 [.ref 1, .int x1] (mk I z)) (fun σ => e_L d 163 5 [.ref 1, .int x1, .int x2, .null, .null] [] σ) (e_H (e_L d 163) 163 2 [.ref 1, .int x1, .int x2, .null, .null])) := e_L_to hd163 3 (by generalize e_L d 163 = K; generalize e_E d = E; rfl)
set_option maxRecDepth 20000 in
theorem B163_5 {d : Nat} {I : Nat → Nat → Int32} {z : e_Z} {x1 x2 : Int32}  : e_L d 163 5 [.ref 1, .int x1, .int x2, .null, .null] [] (mk I z) = (e_rV (e_E d 167 [.ref 1, .int x2] (mk I z)) (fun σ => e_L d 163 10 [.ref 1, .int x1, .int x2, .null, .null] [] σ) (e_H (e_L d 163) 163 7 [.ref 1, .int x1, .int x2, .null, .null])) := e_L_to hd163 3 (by generalize e_L d 163 = K; generalize e_E d = E; rfl)
set_option maxRecDepth 20000 in
theorem B163_10 {d : Nat} {I : Nat → Nat → Int32} {z : e_Z} {x1 x2 : Int32}  : e_L d 163 10 [.ref 1, .int x1, .int x2, .null, .null] [] (mk I z) = (e_rI (e_E d 173 [.int x1] (mk I z)) (fun v σ => e_L d 163 14 [.ref 1, .int x1, .int x2, .null, .null] [.int v] σ) (e_H (e_L d 163) 163 11 [.ref 1, .int x1, .int x2, .null, .null])) := e_L_to hd163 2 (by generalize e_L d 163 = K; generalize e_E d = E; rfl)
set_option maxRecDepth 20000 in
theorem B163_14 {d : Nat} {I : Nat → Nat → Int32} {z : e_Z} {x1 x2 y0 : Int32}  : e_L d 163 14 [.ref 1, .int x1, .int x2, .null, .null] [.int y0] (mk I z) = (e_L d 163 18 [.ref 1, .int x1, .int x2, .int y0, .int (e_n 0)] [] (mk I z)) := e_L_to hd163 3 (by generalize e_L d 163 = K; generalize e_E d = E; rfl)
set_option maxRecDepth 20000 in
theorem B163_18 {d : Nat} {I : Nat → Nat → Int32} {z : e_Z} {x1 x2 x3 x4 : Int32}  : e_L d 163 18 [.ref 1, .int x1, .int x2, .int x3, .int x4] [] (mk I z) = (if e_cc .ge x4 (e_n 9) = true then (some (.inl (some (.int (e_n (-1)))), mk I z)) else (e_rI (e_E d 174 [.int x3, .int x2] (mk I z)) (fun v σ => e_L d 163 30 [.ref 1, .int x1, .int x2, .int x3, .int x4] [.int v] σ) (e_H (e_L d 163) 163 27 [.ref 1, .int x1, .int x2, .int x3, .int x4]))) := e_L_to hd163 6 (by generalize e_L d 163 = K; generalize e_E d = E; rfl)
set_option maxRecDepth 20000 in
theorem B163_30 {d : Nat} {I : Nat → Nat → Int32} {z : e_Z} {x1 x2 x3 x4 y0 : Int32}  : e_L d 163 30 [.ref 1, .int x1, .int x2, .int x3, .int x4] [.int y0] (mk I z) = (if e_cc .eq y0 0 = true then (e_rI (e_E d 7 [.ref (bd z.2.1.1), .int x3] (mk I z)) (fun v σ => e_L d 163 45 [.ref 1, .int x1, .int x2, .int x3, .int x4] [.int v, .int x3] σ) (e_H (e_L d 163) 163 42 [.ref 1, .int x1, .int x2, .int x3, .int x4])) else (some (.inl (some (.int x4)), mk I z))) := by
  rcases z with ⟨J, ⟨_|_, rb, fb, tt⟩, cs, X⟩
  all_goals exact e_L_to hd163 6 (by generalize e_L d 163 = K; generalize e_E d = E; rfl)
set_option maxRecDepth 20000 in
theorem B163_45 {d : Nat} {I : Nat → Nat → Int32} {z : e_Z} {x1 x2 x3 x4 y0 y1 : Int32}  : e_L d 163 45 [.ref 1, .int x1, .int x2, .int x3, .int x4] [.int y1, .int y0] (mk I z) = (e_L d 163 18 [.ref 1, .int x1, .int x2, .int (y0 ||| y1), .int (x4 + e_n 1)] [] (mk I z)) := e_L_to hd163 4 (by generalize e_L d 163 = K; generalize e_E d = E; rfl)
def hd164 : List Nat := [0, 15]
set_option maxRecDepth 20000 in
theorem B164_0 {d : Nat} {I : Nat → Nat → Int32} {z : e_Z} {x1 : Int32}  : e_L d 164 0 [.ref 1, .int x1] [] (mk I z) = (if e_cc .lt x1 0 = true then (e_L d 164 15 [.ref 1, .int x1] [] (mk I z)) else (if e_cc .lt x1 (I (bd z.2.1.1) 2) = true then (some (.inl none, mk I z)) else (e_L d 164 15 [.ref 1, .int x1] [] (mk I z)))) := by
  rcases z with ⟨J, ⟨_|_, rb, fb, tt⟩, cs, X⟩
  all_goals exact e_L_to hd164 8 (by generalize e_L d 164 = K; generalize e_E d = E; rfl)
set_option maxRecDepth 20000 in
theorem B164_15 {d : Nat} {I : Nat → Nat → Int32} {z : e_Z} {x1 : Int32}  : e_L d 164 15 [.ref 1, .int x1] [] (mk I z) = (some (.inr 0, e_exc (mk I z))) := e_L_to hd164 1 (by generalize e_L d 164 = K; generalize e_E d = E; rfl)
def hd165 : List Nat := [0, 18]
set_option maxRecDepth 20000 in
theorem B165_0 {d : Nat} {I : Nat → Nat → Int32} {z : e_Z} {x1 : Int32}  : e_L d 165 0 [.ref 1, .int x1] [] (mk I z) = (if e_cc .lt x1 0 = true then (e_L d 165 18 [.ref 1, .int x1] [] (mk I z)) else (if e_cc .lt x1 (I (bd z.2.1.1 + 1) 0) = true then (some (.inl none, mk I z)) else (e_L d 165 18 [.ref 1, .int x1] [] (mk I z)))) := by
  rcases z with ⟨J, ⟨_|_, rb, fb, tt⟩, cs, X⟩
  all_goals exact e_L_to hd165 9 (by generalize e_L d 165 = K; generalize e_E d = E; rfl)
set_option maxRecDepth 20000 in
theorem B165_18 {d : Nat} {I : Nat → Nat → Int32} {z : e_Z} {x1 : Int32}  : e_L d 165 18 [.ref 1, .int x1] [] (mk I z) = (some (.inr 0, e_exc (mk I z))) := e_L_to hd165 1 (by generalize e_L d 165 = K; generalize e_E d = E; rfl)
def hd166 : List Nat := [0, 18]
set_option maxRecDepth 20000 in
theorem B166_0 {d : Nat} {I : Nat → Nat → Int32} {z : e_Z} {x1 : Int32}  : e_L d 166 0 [.ref 1, .int x1] [] (mk I z) = (if e_cc .lt x1 0 = true then (e_L d 166 18 [.ref 1, .int x1] [] (mk I z)) else (if e_cc .lt x1 (I (bd z.2.1.1 + 1) 1) = true then (some (.inl none, mk I z)) else (e_L d 166 18 [.ref 1, .int x1] [] (mk I z)))) := by
  rcases z with ⟨J, ⟨_|_, rb, fb, tt⟩, cs, X⟩
  all_goals exact e_L_to hd166 9 (by generalize e_L d 166 = K; generalize e_E d = E; rfl)
set_option maxRecDepth 20000 in
theorem B166_18 {d : Nat} {I : Nat → Nat → Int32} {z : e_Z} {x1 : Int32}  : e_L d 166 18 [.ref 1, .int x1] [] (mk I z) = (some (.inr 0, e_exc (mk I z))) := e_L_to hd166 1 (by generalize e_L d 166 = K; generalize e_E d = E; rfl)
def hd167 : List Nat := [0, 15]
set_option maxRecDepth 20000 in
theorem B167_0 {d : Nat} {I : Nat → Nat → Int32} {z : e_Z} {x1 : Int32}  : e_L d 167 0 [.ref 1, .int x1] [] (mk I z) = (if e_cc .lt x1 0 = true then (e_L d 167 15 [.ref 1, .int x1] [] (mk I z)) else (if e_cc .lt x1 (I (bd z.2.1.1) 6) = true then (some (.inl none, mk I z)) else (e_L d 167 15 [.ref 1, .int x1] [] (mk I z)))) := by
  rcases z with ⟨J, ⟨_|_, rb, fb, tt⟩, cs, X⟩
  all_goals exact e_L_to hd167 8 (by generalize e_L d 167 = K; generalize e_E d = E; rfl)
set_option maxRecDepth 20000 in
theorem B167_15 {d : Nat} {I : Nat → Nat → Int32} {z : e_Z} {x1 : Int32}  : e_L d 167 15 [.ref 1, .int x1] [] (mk I z) = (some (.inr 0, e_exc (mk I z))) := e_L_to hd167 1 (by generalize e_L d 167 = K; generalize e_E d = E; rfl)
def hd168 : List Nat := [0, 9]
set_option maxRecDepth 20000 in
theorem B168_0 {d : Nat} {I : Nat → Nat → Int32} {z : e_Z} {x0 x1 : Int32}  : e_L d 168 0 [.int x0, .int x1] [] (mk I z) = (if e_cc .lt x0 0 = true then (e_L d 168 9 [.int x0, .int x1] [] (mk I z)) else (if e_cc .lt x0 x1 = true then (some (.inl none, mk I z)) else (e_L d 168 9 [.int x0, .int x1] [] (mk I z)))) := e_L_to hd168 6 (by generalize e_L d 168 = K; generalize e_E d = E; rfl)
set_option maxRecDepth 20000 in
theorem B168_9 {d : Nat} {I : Nat → Nat → Int32} {z : e_Z} {x0 x1 : Int32}  : e_L d 168 9 [.int x0, .int x1] [] (mk I z) = (some (.inr 0, e_exc (mk I z))) := e_L_to hd168 1 (by generalize e_L d 168 = K; generalize e_E d = E; rfl)
def hd169 : List Nat := [0, 16, 17]
set_option maxRecDepth 20000 in
theorem B169_0 {d : Nat} {I : Nat → Nat → Int32} {z : e_Z} {r : Nat} {x1 : Int32}  : e_L d 169 0 [.ref r, .int x1] [] (mk I z) = (if e_cc .lt x1 0 = true then (e_L d 169 16 [.ref r, .int x1] [] (mk I z)) else (e_al (mk I z) r (fun v5 => (if e_cc .ge x1 v5 = true then (e_L d 169 16 [.ref r, .int x1] [] (mk I z)) else (e_ia (mk I z) r x1 (fun v9 => (e_L d 169 17 [.ref r, .int x1] [.int v9] (mk I z)))))))) := e_L_to hd169 10 (by generalize e_L d 169 = K; generalize e_E d = E; rfl)
set_option maxRecDepth 20000 in
theorem B169_16 {d : Nat} {I : Nat → Nat → Int32} {z : e_Z} {r : Nat} {x1 : Int32}  : e_L d 169 16 [.ref r, .int x1] [] (mk I z) = (e_L d 169 17 [.ref r, .int x1] [.int (e_n 0)] (mk I z)) := e_L_to hd169 1 (by generalize e_L d 169 = K; generalize e_E d = E; rfl)
set_option maxRecDepth 20000 in
theorem B169_17 {d : Nat} {I : Nat → Nat → Int32} {z : e_Z} {r : Nat} {x1 y0 : Int32}  : e_L d 169 17 [.ref r, .int x1] [.int y0] (mk I z) = (some (.inl (some (.int y0)), mk I z)) := e_L_to hd169 1 (by generalize e_L d 169 = K; generalize e_E d = E; rfl)
def hd170 : List Nat := [0, 14]
set_option maxRecDepth 20000 in
theorem B170_0 {d : Nat} {I : Nat → Nat → Int32} {z : e_Z} {r : Nat} {x1 x2 : Int32}  : e_L d 170 0 [.ref r, .int x1, .int x2] [] (mk I z) = (if e_cc .lt x1 0 = true then (e_L d 170 14 [.ref r, .int x1, .int x2] [] (mk I z)) else (e_al (mk I z) r (fun v5 => (if e_cc .ge x1 v5 = true then (e_L d 170 14 [.ref r, .int x1, .int x2] [] (mk I z)) else (e_is (mk I z) r x1 x2 (fun σ => e_L d 170 14 [.ref r, .int x1, .int x2] [] σ)))))) := e_L_to hd170 10 (by generalize e_L d 170 = K; generalize e_E d = E; rfl)
set_option maxRecDepth 20000 in
theorem B170_14 {d : Nat} {I : Nat → Nat → Int32} {z : e_Z} {r : Nat} {x1 x2 : Int32}  : e_L d 170 14 [.ref r, .int x1, .int x2] [] (mk I z) = (some (.inl none, mk I z)) := e_L_to hd170 1 (by generalize e_L d 170 = K; generalize e_E d = E; rfl)
def hd171 : List Nat := [0, 14]
set_option maxRecDepth 20000 in
theorem B171_0 {d : Nat} {I : Nat → Nat → Int32} {z : e_Z} {r r2 : Nat}  : e_L d 171 0 [.ref r, .ref r2] [] (mk I z) = (e_al (mk I z) r (fun v6 => (e_al (mk I z) r2 (fun v8 => (e_cp (mk I z) r (e_n 0) r2 (e_n 0) (e_min v6 v8) (fun σ => e_L d 171 14 [.ref r, .ref r2] [] σ)))))) := e_L_to hd171 10 (by generalize e_L d 171 = K; generalize e_E d = E; rfl)
set_option maxRecDepth 20000 in
theorem B171_14 {d : Nat} {I : Nat → Nat → Int32} {z : e_Z} {r r2 : Nat}  : e_L d 171 14 [.ref r, .ref r2] [] (mk I z) = (some (.inl none, mk I z)) := e_L_to hd171 1 (by generalize e_L d 171 = K; generalize e_E d = E; rfl)
def hd172 : List Nat := [0, 2, 12]
set_option maxRecDepth 20000 in
theorem B172_0 {d : Nat} {I : Nat → Nat → Int32} {z : e_Z} {r : Nat} {x1 : Int32}  : e_L d 172 0 [.ref r, .int x1, .null] [] (mk I z) = (e_L d 172 2 [.ref r, .int x1, .int (e_n 0)] [] (mk I z)) := e_L_to hd172 2 (by generalize e_L d 172 = K; generalize e_E d = E; rfl)
set_option maxRecDepth 20000 in
theorem B172_2 {d : Nat} {I : Nat → Nat → Int32} {z : e_Z} {r : Nat} {x1 x2 : Int32}  : e_L d 172 2 [.ref r, .int x1, .int x2] [] (mk I z) = (e_al (mk I z) r (fun v3 => (if e_cc .ge x2 v3 = true then (some (.inl none, mk I z)) else (e_is (mk I z) r x2 x1 (fun σ => e_L d 172 12 [.ref r, .int x1, .int x2] [] σ))))) := e_L_to hd172 8 (by generalize e_L d 172 = K; generalize e_E d = E; rfl)
set_option maxRecDepth 20000 in
theorem B172_12 {d : Nat} {I : Nat → Nat → Int32} {z : e_Z} {r : Nat} {x1 x2 : Int32}  : e_L d 172 12 [.ref r, .int x1, .int x2] [] (mk I z) = (e_L d 172 2 [.ref r, .int x1, .int (x2 + e_n 1)] [] (mk I z)) := e_L_to hd172 2 (by generalize e_L d 172 = K; generalize e_E d = E; rfl)
def hd173 : List Nat := [0]
set_option maxRecDepth 20000 in
theorem B173_0 {d : Nat} {I : Nat → Nat → Int32} {z : e_Z} {x0 : Int32}  : e_L d 173 0 [.int x0] [] (mk I z) = (some (.inl (some (.int (e_shl (e_n 1) x0))), mk I z)) := e_L_to hd173 4 (by generalize e_L d 173 = K; generalize e_E d = E; rfl)
def hd174 : List Nat := [0, 5, 14]
set_option maxRecDepth 20000 in
theorem B174_0 {d : Nat} {I : Nat → Nat → Int32} {z : e_Z} {x0 x1 : Int32}  : e_L d 174 0 [.int x0, .int x1] [] (mk I z) = (e_rI (e_E d 173 [.int x1] (mk I z)) (fun v σ => e_L d 174 5 [.int x0, .int x1] [.int v, .int x0] σ) (e_H (e_L d 174) 174 2 [.int x0, .int x1])) := e_L_to hd174 3 (by generalize e_L d 174 = K; generalize e_E d = E; rfl)
set_option maxRecDepth 20000 in
theorem B174_5 {d : Nat} {I : Nat → Nat → Int32} {z : e_Z} {x0 x1 y0 y1 : Int32}  : e_L d 174 5 [.int x0, .int x1] [.int y1, .int y0] (mk I z) = (if e_cc .eq (y0 &&& y1) 0 = true then (e_L d 174 14 [.int x0, .int x1] [.int (e_n 0)] (mk I z)) else (e_L d 174 14 [.int x0, .int x1] [.int (e_n 1)] (mk I z))) := e_L_to hd174 4 (by generalize e_L d 174 = K; generalize e_E d = E; rfl)
set_option maxRecDepth 20000 in
theorem B174_14 {d : Nat} {I : Nat → Nat → Int32} {z : e_Z} {x0 x1 y0 : Int32}  : e_L d 174 14 [.int x0, .int x1] [.int y0] (mk I z) = (if y0 = 0 ∨ y0 = 1 then some (.inl (some (.int y0)), mk I z) else none) := e_L_to hd174 1 (by generalize e_L d 174 = K; generalize e_E d = E; rfl)
end RB
