section RA
def hd1 : List Nat := [0, 23]
set_option maxRecDepth 20000 in
theorem B1_0 {d : Nat} {I : Nat → Nat → Int32} {z : e_Z} {b : Nat} (hb : B2 b) : e_L d 1 0 [.ref b] [] (mk I z) = (e_rV (e_E d 87 [.ref (b + 8)] (mk (e_u (e_u I (b + 1) 0 (e_n 0)) (b + 1) 1 (e_n 0)) z)) (fun σ => e_L d 1 23 [.ref b] [] σ) (e_H (e_L d 1) 1 20 [.ref b])) := by
  rcases hb with rfl | rfl
  all_goals exact e_L_to hd1 11 (by generalize e_L d 1 = K; generalize e_E d = E; rfl)
set_option maxRecDepth 20000 in
theorem B1_23 {d : Nat} {I : Nat → Nat → Int32} {z : e_Z} {b : Nat} (hb : B2 b) : e_L d 1 23 [.ref b] [] (mk I z) = (some (.inl none, mk (e_u (e_u (e_u (e_u I b 2 (e_n 0)) b 6 (e_n 0)) b 10 (e_n 0)) b 11 (e_n 0)) z)) := by
  rcases hb with rfl | rfl
  all_goals exact e_L_to hd1 13 (by generalize e_L d 1 = K; generalize e_E d = E; rfl)
def hd2 : List Nat := [0, 12, 24, 36]
set_option maxRecDepth 20000 in
theorem B2_0 {d : Nat} {I : Nat → Nat → Int32} {z : e_Z} {b : Nat} {x1 : Int32} (hb : B2 b) : e_L d 2 0 [.ref b, .int x1] [] (mk I z) = (e_rV (e_E d 170 [.ref (b + 12), .int (I b 2), .int x1] (mk I z)) (fun σ => e_L d 2 12 [.ref b, .int x1] [] σ) (e_H (e_L d 2) 2 9 [.ref b, .int x1])) := by
  rcases hb with rfl | rfl
  all_goals exact e_L_to hd2 6 (by generalize e_L d 2 = K; generalize e_E d = E; rfl)
set_option maxRecDepth 20000 in
theorem B2_12 {d : Nat} {I : Nat → Nat → Int32} {z : e_Z} {b : Nat} {x1 : Int32} (hb : B2 b) : e_L d 2 12 [.ref b, .int x1] [] (mk I z) = (e_rV (e_E d 170 [.ref (b + 13), .int (I b 2), .int (e_n 0)] (mk I z)) (fun σ => e_L d 2 24 [.ref b, .int x1] [] σ) (e_H (e_L d 2) 2 21 [.ref b, .int x1])) := by
  rcases hb with rfl | rfl
  all_goals exact e_L_to hd2 6 (by generalize e_L d 2 = K; generalize e_E d = E; rfl)
set_option maxRecDepth 20000 in
theorem B2_24 {d : Nat} {I : Nat → Nat → Int32} {z : e_Z} {b : Nat} {x1 : Int32} (hb : B2 b) : e_L d 2 24 [.ref b, .int x1] [] (mk I z) = (e_rV (e_E d 170 [.ref (b + 14), .int (I b 2), .int (e_n 0)] (mk I z)) (fun σ => e_L d 2 36 [.ref b, .int x1] [] σ) (e_H (e_L d 2) 2 33 [.ref b, .int x1])) := by
  rcases hb with rfl | rfl
  all_goals exact e_L_to hd2 6 (by generalize e_L d 2 = K; generalize e_E d = E; rfl)
set_option maxRecDepth 20000 in
theorem B2_36 {d : Nat} {I : Nat → Nat → Int32} {z : e_Z} {b : Nat} {x1 : Int32} (hb : B2 b) : e_L d 2 36 [.ref b, .int x1] [] (mk I z) = (some (.inl none, mk (e_u I b 2 ((I b 2) + (e_n 1))) z)) := by
  rcases hb with rfl | rfl
  all_goals exact e_L_to hd2 7 (by generalize e_L d 2 = K; generalize e_E d = E; rfl)
def hd3 : List Nat := [0, 12, 24, 36]
set_option maxRecDepth 20000 in
theorem B3_0 {d : Nat} {I : Nat → Nat → Int32} {z : e_Z} {b : Nat} {x1 x2 : Int32} (hb : B2 b) : e_L d 3 0 [.ref b, .int x1, .int x2] [] (mk I z) = (e_rV (e_E d 170 [.ref (b + 15), .int (I b 6), .int x1] (mk I z)) (fun σ => e_L d 3 12 [.ref b, .int x1, .int x2] [] σ) (e_H (e_L d 3) 3 9 [.ref b, .int x1, .int x2])) := by
  rcases hb with rfl | rfl
  all_goals exact e_L_to hd3 6 (by generalize e_L d 3 = K; generalize e_E d = E; rfl)
set_option maxRecDepth 20000 in
theorem B3_12 {d : Nat} {I : Nat → Nat → Int32} {z : e_Z} {b : Nat} {x1 x2 : Int32} (hb : B2 b) : e_L d 3 12 [.ref b, .int x1, .int x2] [] (mk I z) = (e_rV (e_E d 170 [.ref (b + 16), .int (I b 6), .int x2] (mk I z)) (fun σ => e_L d 3 24 [.ref b, .int x1, .int x2] [] σ) (e_H (e_L d 3) 3 21 [.ref b, .int x1, .int x2])) := by
  rcases hb with rfl | rfl
  all_goals exact e_L_to hd3 6 (by generalize e_L d 3 = K; generalize e_E d = E; rfl)
set_option maxRecDepth 20000 in
theorem B3_24 {d : Nat} {I : Nat → Nat → Int32} {z : e_Z} {b : Nat} {x1 x2 : Int32} (hb : B2 b) : e_L d 3 24 [.ref b, .int x1, .int x2] [] (mk I z) = (e_rV (e_E d 170 [.ref (b + 17), .int (I b 6), .int (e_n 0)] (mk I z)) (fun σ => e_L d 3 36 [.ref b, .int x1, .int x2] [] σ) (e_H (e_L d 3) 3 33 [.ref b, .int x1, .int x2])) := by
  rcases hb with rfl | rfl
  all_goals exact e_L_to hd3 6 (by generalize e_L d 3 = K; generalize e_E d = E; rfl)
set_option maxRecDepth 20000 in
theorem B3_36 {d : Nat} {I : Nat → Nat → Int32} {z : e_Z} {b : Nat} {x1 x2 : Int32} (hb : B2 b) : e_L d 3 36 [.ref b, .int x1, .int x2] [] (mk I z) = (some (.inl none, mk (e_u I b 6 ((I b 6) + (e_n 1))) z)) := by
  rcases hb with rfl | rfl
  all_goals exact e_L_to hd3 7 (by generalize e_L d 3 = K; generalize e_E d = E; rfl)
def hd4 : List Nat := [0, 13, 17, 21, 34, 38, 42]
set_option maxRecDepth 20000 in
theorem B4_0 {d : Nat} {I : Nat → Nat → Int32} {z : e_Z} {b : Nat} {x1 x2 : Int32} (hb : B2 b) : e_L d 4 0 [.ref b, .int x1, .int x2] [] (mk I z) = (e_rI (e_E d 169 [.ref (b + 17), .int x1] (mk I z)) (fun v σ => e_L d 4 13 [.ref b, .int x1, .int x2] [.int v, .int x1, .ref (b + 17)] σ) (e_H (e_L d 4) 4 10 [.ref b, .int x1, .int x2])) := by
  rcases hb with rfl | rfl
  all_goals exact e_L_to hd4 7 (by generalize e_L d 4 = K; generalize e_E d = E; rfl)
set_option maxRecDepth 20000 in
theorem B4_13 {d : Nat} {I : Nat → Nat → Int32} {z : e_Z} {b : Nat} {x1 x2 y1 y2 : Int32}  : e_L d 4 13 [.ref b, .int x1, .int x2] [.int y2, .int y1, .ref (b + 17)] (mk I z) = (e_rI (e_E d 173 [.int x2] (mk I z)) (fun v σ => e_L d 4 17 [.ref b, .int x1, .int x2] [.int v, .int y2, .int y1, .ref (b + 17)] σ) (e_H (e_L d 4) 4 14 [.ref b, .int x1, .int x2])) := e_L_to hd4 2 (by generalize e_L d 4 = K; generalize e_E d = E; rfl)
set_option maxRecDepth 20000 in
theorem B4_17 {d : Nat} {I : Nat → Nat → Int32} {z : e_Z} {b : Nat} {x1 x2 y1 y2 y3 : Int32}  : e_L d 4 17 [.ref b, .int x1, .int x2] [.int y3, .int y2, .int y1, .ref (b + 17)] (mk I z) = (e_rV (e_E d 170 [.ref (b + 17), .int y1, .int (y2 ||| y3)] (mk I z)) (fun σ => e_L d 4 21 [.ref b, .int x1, .int x2] [] σ) (e_H (e_L d 4) 4 18 [.ref b, .int x1, .int x2])) := e_L_to hd4 2 (by generalize e_L d 4 = K; generalize e_E d = E; rfl)
set_option maxRecDepth 20000 in
theorem B4_21 {d : Nat} {I : Nat → Nat → Int32} {z : e_Z} {b : Nat} {x1 x2 : Int32} (hb : B2 b) : e_L d 4 21 [.ref b, .int x1, .int x2] [] (mk I z) = (e_rI (e_E d 169 [.ref (b + 17), .int x2] (mk I z)) (fun v σ => e_L d 4 34 [.ref b, .int x1, .int x2] [.int v, .int x2, .ref (b + 17)] σ) (e_H (e_L d 4) 4 31 [.ref b, .int x1, .int x2])) := by
  rcases hb with rfl | rfl
  all_goals exact e_L_to hd4 7 (by generalize e_L d 4 = K; generalize e_E d = E; rfl)
set_option maxRecDepth 20000 in
theorem B4_34 {d : Nat} {I : Nat → Nat → Int32} {z : e_Z} {b : Nat} {x1 x2 y1 y2 : Int32}  : e_L d 4 34 [.ref b, .int x1, .int x2] [.int y2, .int y1, .ref (b + 17)] (mk I z) = (e_rI (e_E d 173 [.int x1] (mk I z)) (fun v σ => e_L d 4 38 [.ref b, .int x1, .int x2] [.int v, .int y2, .int y1, .ref (b + 17)] σ) (e_H (e_L d 4) 4 35 [.ref b, .int x1, .int x2])) := e_L_to hd4 2 (by generalize e_L d 4 = K; generalize e_E d = E; rfl)
set_option maxRecDepth 20000 in
theorem B4_38 {d : Nat} {I : Nat → Nat → Int32} {z : e_Z} {b : Nat} {x1 x2 y1 y2 y3 : Int32}  : e_L d 4 38 [.ref b, .int x1, .int x2] [.int y3, .int y2, .int y1, .ref (b + 17)] (mk I z) = (e_rV (e_E d 170 [.ref (b + 17), .int y1, .int (y2 ||| y3)] (mk I z)) (fun σ => e_L d 4 42 [.ref b, .int x1, .int x2] [] σ) (e_H (e_L d 4) 4 39 [.ref b, .int x1, .int x2])) := e_L_to hd4 2 (by generalize e_L d 4 = K; generalize e_E d = E; rfl)
set_option maxRecDepth 20000 in
theorem B4_42 {d : Nat} {I : Nat → Nat → Int32} {z : e_Z} {b : Nat} {x1 x2 : Int32} (hb : B2 b) : e_L d 4 42 [.ref b, .int x1, .int x2] [] (mk I z) = (some (.inl none, mk (e_u I b 10 ((I b 10) + (e_n 1))) z)) := by
  rcases hb with rfl | rfl
  all_goals exact e_L_to hd4 7 (by generalize e_L d 4 = K; generalize e_E d = E; rfl)
def hd5 : List Nat := [0, 15, 26, 30, 34, 46, 58]
set_option maxRecDepth 20000 in
theorem B5_0 {d : Nat} {I : Nat → Nat → Int32} {z : e_Z} {b : Nat} {x1 x2 x3 : Int32} (hb : B2 b) : e_L d 5 0 [.ref b, .int x1, .int x2, .int x3, .null] [] (mk I z) = (if e_cc .eq x3 0 = true then (e_L d 5 15 [.ref b, .int x1, .int x2, .int x3, .null] [.ref (b + 14)] (mk I z)) else (e_L d 5 15 [.ref b, .int x1, .int x2, .int x3, .null] [.ref (b + 13)] (mk I z))) := by
  rcases hb with rfl | rfl
  all_goals exact e_L_to hd5 5 (by generalize e_L d 5 = K; generalize e_E d = E; rfl)
set_option maxRecDepth 20000 in
theorem B5_15 {d : Nat} {I : Nat → Nat → Int32} {z : e_Z} {b s0 : Nat} {x1 x2 x3 : Int32}  : e_L d 5 15 [.ref b, .int x1, .int x2, .int x3, .null] [.ref s0] (mk I z) = (e_rI (e_E d 169 [.ref s0, .int x1] (mk I z)) (fun v σ => e_L d 5 26 [.ref b, .int x1, .int x2, .int x3, .ref s0] [.int v, .int x1, .ref s0] σ) (e_H (e_L d 5) 5 23 [.ref b, .int x1, .int x2, .int x3, .ref s0])) := e_L_to hd5 6 (by generalize e_L d 5 = K; generalize e_E d = E; rfl)
set_option maxRecDepth 20000 in
theorem B5_26 {d : Nat} {I : Nat → Nat → Int32} {z : e_Z} {b s0 : Nat} {x1 x2 x3 y1 y2 : Int32}  : e_L d 5 26 [.ref b, .int x1, .int x2, .int x3, .ref s0] [.int y2, .int y1, .ref s0] (mk I z) = (e_rI (e_E d 173 [.int x2] (mk I z)) (fun v σ => e_L d 5 30 [.ref b, .int x1, .int x2, .int x3, .ref s0] [.int v, .int y2, .int y1, .ref s0] σ) (e_H (e_L d 5) 5 27 [.ref b, .int x1, .int x2, .int x3, .ref s0])) := e_L_to hd5 2 (by generalize e_L d 5 = K; generalize e_E d = E; rfl)
set_option maxRecDepth 20000 in
theorem B5_30 {d : Nat} {I : Nat → Nat → Int32} {z : e_Z} {b s0 : Nat} {x1 x2 x3 y1 y2 y3 : Int32}  : e_L d 5 30 [.ref b, .int x1, .int x2, .int x3, .ref s0] [.int y3, .int y2, .int y1, .ref s0] (mk I z) = (e_rV (e_E d 170 [.ref s0, .int y1, .int (y2 ||| y3)] (mk I z)) (fun σ => e_L d 5 34 [.ref b, .int x1, .int x2, .int x3, .ref s0] [] σ) (e_H (e_L d 5) 5 31 [.ref b, .int x1, .int x2, .int x3, .ref s0])) := e_L_to hd5 2 (by generalize e_L d 5 = K; generalize e_E d = E; rfl)
set_option maxRecDepth 20000 in
theorem B5_34 {d : Nat} {I : Nat → Nat → Int32} {z : e_Z} {b s0 : Nat} {x1 x2 x3 : Int32} (hb : B2 b) : e_L d 5 34 [.ref b, .int x1, .int x2, .int x3, .ref s0] [] (mk I z) = (e_rV (e_E d 170 [.ref (b + 18), .int (I b 11), .int x1] (mk I z)) (fun σ => e_L d 5 46 [.ref b, .int x1, .int x2, .int x3, .ref s0] [] σ) (e_H (e_L d 5) 5 43 [.ref b, .int x1, .int x2, .int x3, .ref s0])) := by
  rcases hb with rfl | rfl
  all_goals exact e_L_to hd5 6 (by generalize e_L d 5 = K; generalize e_E d = E; rfl)
set_option maxRecDepth 20000 in
theorem B5_46 {d : Nat} {I : Nat → Nat → Int32} {z : e_Z} {b s0 : Nat} {x1 x2 x3 : Int32} (hb : B2 b) : e_L d 5 46 [.ref b, .int x1, .int x2, .int x3, .ref s0] [] (mk I z) = (e_rV (e_E d 170 [.ref (b + 19), .int (I b 11), .int x2] (mk I z)) (fun σ => e_L d 5 58 [.ref b, .int x1, .int x2, .int x3, .ref s0] [] σ) (e_H (e_L d 5) 5 55 [.ref b, .int x1, .int x2, .int x3, .ref s0])) := by
  rcases hb with rfl | rfl
  all_goals exact e_L_to hd5 6 (by generalize e_L d 5 = K; generalize e_E d = E; rfl)
set_option maxRecDepth 20000 in
theorem B5_58 {d : Nat} {I : Nat → Nat → Int32} {z : e_Z} {b s0 : Nat} {x1 x2 x3 : Int32} (hb : B2 b) : e_L d 5 58 [.ref b, .int x1, .int x2, .int x3, .ref s0] [] (mk I z) = (some (.inl none, mk (e_u I b 11 ((I b 11) + (e_n 1))) z)) := by
  rcases hb with rfl | rfl
  all_goals exact e_L_to hd5 7 (by generalize e_L d 5 = K; generalize e_E d = E; rfl)
def hd6 : List Nat := [0, 8, 16]
set_option maxRecDepth 20000 in
theorem B6_0 {d : Nat} {I : Nat → Nat → Int32} {z : e_Z} {b : Nat} {x1 : Int32} (hb : B2 b) : e_L d 6 0 [.ref b, .int x1] [] (mk I z) = (e_rI (e_E d 169 [.ref (b + 13), .int x1] (mk I z)) (fun v σ => e_L d 6 8 [.ref b, .int x1] [.int v] σ) (e_H (e_L d 6) 6 5 [.ref b, .int x1])) := by
  rcases hb with rfl | rfl
  all_goals exact e_L_to hd6 4 (by generalize e_L d 6 = K; generalize e_E d = E; rfl)
set_option maxRecDepth 20000 in
theorem B6_8 {d : Nat} {I : Nat → Nat → Int32} {z : e_Z} {b : Nat} {x1 y0 : Int32} (hb : B2 b) : e_L d 6 8 [.ref b, .int x1] [.int y0] (mk I z) = (e_rI (e_E d 169 [.ref (b + 14), .int x1] (mk I z)) (fun v σ => e_L d 6 16 [.ref b, .int x1] [.int v, .int y0] σ) (e_H (e_L d 6) 6 13 [.ref b, .int x1])) := by
  rcases hb with rfl | rfl
  all_goals exact e_L_to hd6 4 (by generalize e_L d 6 = K; generalize e_E d = E; rfl)
set_option maxRecDepth 20000 in
theorem B6_16 {d : Nat} {I : Nat → Nat → Int32} {z : e_Z} {b : Nat} {x1 y0 y1 : Int32}  : e_L d 6 16 [.ref b, .int x1] [.int y1, .int y0] (mk I z) = (some (.inl (some (.int (y0 ||| y1))), mk I z)) := e_L_to hd6 2 (by generalize e_L d 6 = K; generalize e_E d = E; rfl)
def hd7 : List Nat := [0, 4, 17, 29, 31]
set_option maxRecDepth 20000 in
theorem B7_0 {d : Nat} {I : Nat → Nat → Int32} {z : e_Z} {b : Nat} {x1 : Int32}  : e_L d 7 0 [.ref b, .int x1, .null, .null] [] (mk I z) = (e_L d 7 4 [.ref b, .int x1, .int (e_n 0), .int (e_n 0)] [] (mk I z)) := e_L_to hd7 4 (by generalize e_L d 7 = K; generalize e_E d = E; rfl)
set_option maxRecDepth 20000 in
theorem B7_4 {d : Nat} {I : Nat → Nat → Int32} {z : e_Z} {b : Nat} {x1 x2 x3 : Int32} (hb : B2 b) : e_L d 7 4 [.ref b, .int x1, .int x2, .int x3] [] (mk I z) = (if e_cc .ge x3 (I b 6) = true then (some (.inl (some (.int x2)), mk I z)) else (e_rI (e_E d 174 [.int x1, .int x3] (mk I z)) (fun v σ => e_L d 7 17 [.ref b, .int x1, .int x2, .int x3] [.int v] σ) (e_H (e_L d 7) 7 14 [.ref b, .int x1, .int x2, .int x3]))) := by
  rcases hb with rfl | rfl
  all_goals exact e_L_to hd7 7 (by generalize e_L d 7 = K; generalize e_E d = E; rfl)
set_option maxRecDepth 20000 in
theorem B7_17 {d : Nat} {I : Nat → Nat → Int32} {z : e_Z} {b : Nat} {x1 x2 x3 y0 : Int32} (hb : B2 b) : e_L d 7 17 [.ref b, .int x1, .int x2, .int x3] [.int y0] (mk I z) = (if e_cc .eq y0 0 = true then (e_L d 7 31 [.ref b, .int x1, .int x2, .int x3] [] (mk I z)) else (e_rI (e_E d 169 [.ref (b + 17), .int x3] (mk I z)) (fun v σ => e_L d 7 29 [.ref b, .int x1, .int x2, .int x3] [.int v, .int x2] σ) (e_H (e_L d 7) 7 26 [.ref b, .int x1, .int x2, .int x3]))) := by
  rcases hb with rfl | rfl
  all_goals exact e_L_to hd7 6 (by generalize e_L d 7 = K; generalize e_E d = E; rfl)
set_option maxRecDepth 20000 in
theorem B7_29 {d : Nat} {I : Nat → Nat → Int32} {z : e_Z} {b : Nat} {x1 x2 x3 y0 y1 : Int32}  : e_L d 7 29 [.ref b, .int x1, .int x2, .int x3] [.int y1, .int y0] (mk I z) = (e_L d 7 31 [.ref b, .int x1, .int (y0 ||| y1), .int x3] [] (mk I z)) := e_L_to hd7 2 (by generalize e_L d 7 = K; generalize e_E d = E; rfl)
set_option maxRecDepth 20000 in
theorem B7_31 {d : Nat} {I : Nat → Nat → Int32} {z : e_Z} {b : Nat} {x1 x2 x3 : Int32}  : e_L d 7 31 [.ref b, .int x1, .int x2, .int x3] [] (mk I z) = (e_L d 7 4 [.ref b, .int x1, .int x2, .int (x3 + e_n 1)] [] (mk I z)) := e_L_to hd7 2 (by generalize e_L d 7 = K; generalize e_E d = E; rfl)
def hd8 : List Nat := [0, 4, 16]
set_option maxRecDepth 20000 in
theorem B8_0 {d : Nat} {I : Nat → Nat → Int32} {z : e_Z} {b : Nat} {x1 : Int32}  : e_L d 8 0 [.ref b, .int x1, .null, .null] [] (mk I z) = (e_L d 8 4 [.ref b, .int x1, .int x1, .int (e_n 0)] [] (mk I z)) := e_L_to hd8 4 (by generalize e_L d 8 = K; generalize e_E d = E; rfl)
set_option maxRecDepth 20000 in
theorem B8_4 {d : Nat} {I : Nat → Nat → Int32} {z : e_Z} {b : Nat} {x1 x2 x3 : Int32} (hb : B2 b) : e_L d 8 4 [.ref b, .int x1, .int x2, .int x3] [] (mk I z) = (if e_cc .ge x3 (e_n 9) = true then (some (.inl (some (.int x2)), mk I z)) else (e_rI (e_E d 7 [.ref b, .int x2] (mk I z)) (fun v σ => e_L d 8 16 [.ref b, .int x1, .int x2, .int x3] [.int v, .int x2] σ) (e_H (e_L d 8) 8 13 [.ref b, .int x1, .int x2, .int x3]))) := by
  rcases hb with rfl | rfl
  all_goals exact e_L_to hd8 7 (by generalize e_L d 8 = K; generalize e_E d = E; rfl)
set_option maxRecDepth 20000 in
theorem B8_16 {d : Nat} {I : Nat → Nat → Int32} {z : e_Z} {b : Nat} {x1 x2 x3 y0 y1 : Int32}  : e_L d 8 16 [.ref b, .int x1, .int x2, .int x3] [.int y1, .int y0] (mk I z) = (e_L d 8 4 [.ref b, .int x1, .int (y0 ||| y1), .int (x3 + e_n 1)] [] (mk I z)) := e_L_to hd8 4 (by generalize e_L d 8 = K; generalize e_E d = E; rfl)
def hd9 : List Nat := [0, 4, 18, 29, 33]
set_option maxRecDepth 20000 in
theorem B9_0 {d : Nat} {I : Nat → Nat → Int32} {z : e_Z} {b : Nat} {x1 : Int32}  : e_L d 9 0 [.ref b, .int x1, .null, .null] [] (mk I z) = (e_L d 9 4 [.ref b, .int x1, .int (e_n 0), .int (e_n 0)] [] (mk I z)) := e_L_to hd9 4 (by generalize e_L d 9 = K; generalize e_E d = E; rfl)
set_option maxRecDepth 20000 in
theorem B9_4 {d : Nat} {I : Nat → Nat → Int32} {z : e_Z} {b : Nat} {x1 x2 x3 : Int32} (hb : B2 b) : e_L d 9 4 [.ref b, .int x1, .int x2, .int x3] [] (mk I z) = (if e_cc .ge x3 (I b 6) = true then (some (.inl (some (.int x2)), mk I z)) else (e_rI (e_E d 174 [.int x1, .int x3] (mk I z)) (fun v σ => e_L d 9 18 [.ref b, .int x1, .int x2, .int x3] [.int v, .int x2] σ) (e_H (e_L d 9) 9 15 [.ref b, .int x1, .int x2, .int x3]))) := by
  rcases hb with rfl | rfl
  all_goals exact e_L_to hd9 8 (by generalize e_L d 9 = K; generalize e_E d = E; rfl)
set_option maxRecDepth 20000 in
theorem B9_18 {d : Nat} {I : Nat → Nat → Int32} {z : e_Z} {b : Nat} {x1 x2 x3 y0 y1 : Int32} (hb : B2 b) : e_L d 9 18 [.ref b, .int x1, .int x2, .int x3] [.int y1, .int y0] (mk I z) = (if e_cc .eq y1 0 = true then (e_L d 9 33 [.ref b, .int x1, .int x2, .int x3] [.int (e_n 0), .int y0] (mk I z)) else (e_rI (e_E d 169 [.ref (b + 15), .int x3] (mk I z)) (fun v σ => e_L d 9 29 [.ref b, .int x1, .int x2, .int x3] [.int v, .int y0] σ) (e_H (e_L d 9) 9 26 [.ref b, .int x1, .int x2, .int x3]))) := by
  rcases hb with rfl | rfl
  all_goals exact e_L_to hd9 5 (by generalize e_L d 9 = K; generalize e_E d = E; rfl)
set_option maxRecDepth 20000 in
theorem B9_29 {d : Nat} {I : Nat → Nat → Int32} {z : e_Z} {b : Nat} {x1 x2 x3 y0 y1 : Int32}  : e_L d 9 29 [.ref b, .int x1, .int x2, .int x3] [.int y1, .int y0] (mk I z) = (e_L d 9 33 [.ref b, .int x1, .int x2, .int x3] [.int y1, .int y0] (mk I z)) := e_L_to hd9 1 (by generalize e_L d 9 = K; generalize e_E d = E; rfl)
set_option maxRecDepth 20000 in
theorem B9_33 {d : Nat} {I : Nat → Nat → Int32} {z : e_Z} {b : Nat} {x1 x2 x3 y0 y1 : Int32}  : e_L d 9 33 [.ref b, .int x1, .int x2, .int x3] [.int y1, .int y0] (mk I z) = (e_L d 9 4 [.ref b, .int x1, .int (y0 + y1), .int (x3 + e_n 1)] [] (mk I z)) := e_L_to hd9 4 (by generalize e_L d 9 = K; generalize e_E d = E; rfl)
def hd10 : List Nat := [0, 2, 18, 28, 40, 45, 54, 60]
set_option maxRecDepth 20000 in
theorem B10_0 {d : Nat} {I : Nat → Nat → Int32} {z : e_Z} {b : Nat} {x1 x2 : Int32}  : e_L d 10 0 [.ref b, .int x1, .int x2, .null, .null] [] (mk I z) = (e_L d 10 2 [.ref b, .int x1, .int x2, .int (e_n 0), .null] [] (mk I z)) := e_L_to hd10 2 (by generalize e_L d 10 = K; generalize e_E d = E; rfl)
set_option maxRecDepth 20000 in
theorem B10_2 {d : Nat} {I : Nat → Nat → Int32} {z : e_Z} {b : Nat} {x1 x2 x3 : Int32} {u4 : Value} (hb : B2 b) : e_L d 10 2 [.ref b, .int x1, .int x2, .int x3, u4] [] (mk I z) = (if e_cc .ge x3 (I b 11) = true then (some (.inl (some (.int (e_n (-1)))), mk I z)) else (e_rI (e_E d 169 [.ref (b + 19), .int x3] (mk I z)) (fun v σ => e_L d 10 18 [.ref b, .int x1, .int x2, .int x3, u4] [.int v] σ) (e_H (e_L d 10) 10 15 [.ref b, .int x1, .int x2, .int x3, u4]))) := by
  rcases hb with rfl | rfl
  all_goals exact e_L_to hd10 8 (by generalize e_L d 10 = K; generalize e_E d = E; rfl)
set_option maxRecDepth 20000 in
theorem B10_18 {d : Nat} {I : Nat → Nat → Int32} {z : e_Z} {b : Nat} {x1 x2 x3 y0 : Int32} {u4 : Value} (hb : B2 b) : e_L d 10 18 [.ref b, .int x1, .int x2, .int x3, u4] [.int y0] (mk I z) = (e_rI (e_E d 169 [.ref (b + 18), .int x3] (mk I z)) (fun v σ => e_L d 10 28 [.ref b, .int x1, .int x2, .int x3, .int y0] [.int v] σ) (e_H (e_L d 10) 10 25 [.ref b, .int x1, .int x2, .int x3, .int y0])) := by
  rcases hb with rfl | rfl
  all_goals exact e_L_to hd10 5 (by generalize e_L d 10 = K; generalize e_E d = E; rfl)
set_option maxRecDepth 20000 in
theorem B10_28 {d : Nat} {I : Nat → Nat → Int32} {z : e_Z} {b : Nat} {x1 x2 x3 x4 y0 : Int32} (hb : B2 b) : e_L d 10 28 [.ref b, .int x1, .int x2, .int x3, .int x4] [.int y0] (mk I z) = (if e_cc .ne y0 x2 = true then (e_L d 10 60 [.ref b, .int x1, .int x2, .int x3, .int x4] [] (mk I z)) else (e_rI (e_E d 169 [.ref (b + 13), .int x2] (mk I z)) (fun v σ => e_L d 10 40 [.ref b, .int x1, .int x2, .int x3, .int x4] [.int v] σ) (e_H (e_L d 10) 10 37 [.ref b, .int x1, .int x2, .int x3, .int x4]))) := by
  rcases hb with rfl | rfl
  all_goals exact e_L_to hd10 6 (by generalize e_L d 10 = K; generalize e_E d = E; rfl)
set_option maxRecDepth 20000 in
theorem B10_40 {d : Nat} {I : Nat → Nat → Int32} {z : e_Z} {b : Nat} {x1 x2 x3 x4 y0 : Int32}  : e_L d 10 40 [.ref b, .int x1, .int x2, .int x3, .int x4] [.int y0] (mk I z) = (e_rI (e_E d 174 [.int y0, .int x4] (mk I z)) (fun v σ => e_L d 10 45 [.ref b, .int x1, .int x2, .int x3, .int x4] [.int v] σ) (e_H (e_L d 10) 10 42 [.ref b, .int x1, .int x2, .int x3, .int x4])) := e_L_to hd10 2 (by generalize e_L d 10 = K; generalize e_E d = E; rfl)
set_option maxRecDepth 20000 in
theorem B10_45 {d : Nat} {I : Nat → Nat → Int32} {z : e_Z} {b : Nat} {x1 x2 x3 x4 y0 : Int32}  : e_L d 10 45 [.ref b, .int x1, .int x2, .int x3, .int x4] [.int y0] (mk I z) = (if e_cc .eq y0 0 = true then (e_L d 10 60 [.ref b, .int x1, .int x2, .int x3, .int x4] [] (mk I z)) else (e_rI (e_E d 174 [.int x1, .int x4] (mk I z)) (fun v σ => e_L d 10 54 [.ref b, .int x1, .int x2, .int x3, .int x4] [.int v] σ) (e_H (e_L d 10) 10 51 [.ref b, .int x1, .int x2, .int x3, .int x4]))) := e_L_to hd10 4 (by generalize e_L d 10 = K; generalize e_E d = E; rfl)
set_option maxRecDepth 20000 in
theorem B10_54 {d : Nat} {I : Nat → Nat → Int32} {z : e_Z} {b : Nat} {x1 x2 x3 x4 y0 : Int32}  : e_L d 10 54 [.ref b, .int x1, .int x2, .int x3, .int x4] [.int y0] (mk I z) = (if e_cc .ne y0 0 = true then (e_L d 10 60 [.ref b, .int x1, .int x2, .int x3, .int x4] [] (mk I z)) else (some (.inl (some (.int x4)), mk I z))) := e_L_to hd10 3 (by generalize e_L d 10 = K; generalize e_E d = E; rfl)
set_option maxRecDepth 20000 in
theorem B10_60 {d : Nat} {I : Nat → Nat → Int32} {z : e_Z} {b : Nat} {x1 x2 x3 x4 : Int32}  : e_L d 10 60 [.ref b, .int x1, .int x2, .int x3, .int x4] [] (mk I z) = (e_L d 10 2 [.ref b, .int x1, .int x2, .int (x3 + e_n 1), .int x4] [] (mk I z)) := e_L_to hd10 2 (by generalize e_L d 10 = K; generalize e_E d = E; rfl)
def hd12 : List Nat := [0, 5, 13, 61, 69]
set_option maxRecDepth 20000 in
theorem B12_0 {d : Nat} {I : Nat → Nat → Int32} {z : e_Z} {b : Nat}  : e_L d 12 0 [.ref 470, .ref b, .ref 51] [] (mk I z) = (e_L d 12 5 [.ref 470, .ref b, .ref 51] [] (ms I z.1 (e_u (fr z.2.1) 470 1 b) z.2.2.1 z.2.2.2)) := e_L_to hd12 3 (by generalize e_L d 12 = K; generalize e_E d = E; rfl)
set_option maxRecDepth 20000 in
theorem B12_5 {d : Nat} {I : Nat → Nat → Int32} {z : e_Z} {b : Nat}  : e_L d 12 5 [.ref 470, .ref b, .ref 51] [] (mk I z) = (e_rV (e_E d 47 [.ref 471, .ref 51] (mk I z)) (fun σ => e_L d 12 13 [.ref 470, .ref b, .ref 51] [] σ) (e_H (e_L d 12) 12 10 [.ref 470, .ref b, .ref 51])) := e_L_to hd12 4 (by generalize e_L d 12 = K; generalize e_E d = E; rfl)
set_option maxRecDepth 20000 in
theorem B12_13 {d : Nat} {I : Nat → Nat → Int32} {z : e_Z} {b : Nat}  : e_L d 12 13 [.ref 470, .ref b, .ref 51] [] (mk I z) = (if 2 = 2 ∧ (e_n 0 = 0 ∨ e_n 0 = 1) then (e_rV (e_E d 172 [.ref 477, .int (e_n (-1))] (mk (e_u (e_u (e_u (e_u (e_u (e_u (e_u (e_u I 470 2 (e_n (-1))) 470 3 (e_n (-1))) 470 4 (e_n (-1))) 470 5 (e_n (-1))) 470 6 (e_n 0)) 470 7 (e_n 0)) 470 8 (e_n (-1))) 470 9 (e_n 0)) z)) (fun σ => e_L d 12 61 [.ref 470, .ref b, .ref 51] [] σ) (e_H (e_L d 12) 12 58 [.ref 470, .ref b, .ref 51])) else none) := e_L_to hd12 28 (by generalize e_L d 12 = K; generalize e_E d = E; rfl)
set_option maxRecDepth 20000 in
theorem B12_61 {d : Nat} {I : Nat → Nat → Int32} {z : e_Z} {b : Nat}  : e_L d 12 61 [.ref 470, .ref b, .ref 51] [] (mk I z) = (e_rV (e_E d 172 [.ref 478, .int (e_n 0)] (mk I z)) (fun σ => e_L d 12 69 [.ref 470, .ref b, .ref 51] [] σ) (e_H (e_L d 12) 12 66 [.ref 470, .ref b, .ref 51])) := e_L_to hd12 4 (by generalize e_L d 12 = K; generalize e_E d = E; rfl)
set_option maxRecDepth 20000 in
theorem B12_69 {d : Nat} {I : Nat → Nat → Int32} {z : e_Z} {b : Nat}  : e_L d 12 69 [.ref 470, .ref b, .ref 51] [] (mk I z) = (some (.inl none, mk I z)) := e_L_to hd12 1 (by generalize e_L d 12 = K; generalize e_E d = E; rfl)
def hd13 : List Nat := [0, 2, 23, 29]
set_option maxRecDepth 20000 in
theorem B13_0 {d : Nat} {I : Nat → Nat → Int32} {z : e_Z} {x1 : Int32}  : e_L d 13 0 [.ref 470, .int x1, .null] [] (mk I z) = (e_L d 13 2 [.ref 470, .int x1, .int (e_n 0)] [] (mk I z)) := e_L_to hd13 2 (by generalize e_L d 13 = K; generalize e_E d = E; rfl)
set_option maxRecDepth 20000 in
theorem B13_2 {d : Nat} {I : Nat → Nat → Int32} {z : e_Z} {x1 x2 : Int32}  : e_L d 13 2 [.ref 470, .int x1, .int x2] [] (mk I z) = (if e_cc .ge x2 x1 = true then (e_L d 13 29 [.ref 470, .int x1, .int x2] [] (mk I z)) else (if e_cc .ge (I 471 0) (e_n 60) = true then (e_L d 13 29 [.ref 470, .int x1, .int x2] [] (mk I z)) else (e_rV (e_E d 14 [.ref 470] (mk I z)) (fun σ => e_L d 13 23 [.ref 470, .int x1, .int x2] [] σ) (e_H (e_L d 13) 13 20 [.ref 470, .int x1, .int x2])))) := e_L_to hd13 10 (by generalize e_L d 13 = K; generalize e_E d = E; rfl)
set_option maxRecDepth 20000 in
theorem B13_23 {d : Nat} {I : Nat → Nat → Int32} {z : e_Z} {x1 x2 : Int32}  : e_L d 13 23 [.ref 470, .int x1, .int x2] [] (mk I z) = (e_L d 13 2 [.ref 470, .int x1, .int (x2 + e_n 1)] [] (mk I z)) := e_L_to hd13 2 (by generalize e_L d 13 = K; generalize e_E d = E; rfl)
set_option maxRecDepth 20000 in
theorem B13_29 {d : Nat} {I : Nat → Nat → Int32} {z : e_Z} {x1 x2 : Int32}  : e_L d 13 29 [.ref 470, .int x1, .int x2] [] (mk I z) = (some (.inl none, mk I z)) := e_L_to hd13 1 (by generalize e_L d 13 = K; generalize e_E d = E; rfl)
def hd14 : List Nat := [0, 4, 11, 37, 43, 70, 82, 85, 103]
set_option maxRecDepth 20000 in
theorem B14_0 {d : Nat} {I : Nat → Nat → Int32} {z : e_Z}  : e_L d 14 0 [.ref 470, .null, .null] [] (mk I z) = (e_rV (e_E d 15 [.ref 470] (mk I z)) (fun σ => e_L d 14 4 [.ref 470, .null, .null] [] σ) (e_H (e_L d 14) 14 1 [.ref 470, .null, .null])) := e_L_to hd14 2 (by generalize e_L d 14 = K; generalize e_E d = E; rfl)
set_option maxRecDepth 20000 in
theorem B14_4 {d : Nat} {I : Nat → Nat → Int32} {z : e_Z}  : e_L d 14 4 [.ref 470, .null, .null] [] (mk I z) = (e_L d 14 11 [.ref 470, .int (I 470 9), .int (e_n 0)] [] (mk I z)) := e_L_to hd14 5 (by generalize e_L d 14 = K; generalize e_E d = E; rfl)
set_option maxRecDepth 20000 in
theorem B14_11 {d : Nat} {I : Nat → Nat → Int32} {z : e_Z} {x1 x2 : Int32}  : e_L d 14 11 [.ref 470, .int x1, .int x2] [] (mk I z) = (if e_cc .ge x2 (I (bd z.2.1.2.2.1) 2) = true then (e_L d 14 43 [.ref 470, .int x1, .int x2] [] (mk I z)) else (if e_cc .eq (I 471 4) 0 = true then (e_L d 14 43 [.ref 470, .int x1, .int x2] [] (mk I z)) else (e_rV (e_E d 16 [.ref 470, .int x2] (mk I z)) (fun σ => e_L d 14 37 [.ref 470, .int x1, .int x2] [] σ) (e_H (e_L d 14) 14 34 [.ref 470, .int x1, .int x2])))) := by
  rcases z with ⟨J, ⟨s, rb, _|_, tt⟩, cs, X⟩
  all_goals exact e_L_to hd14 12 (by generalize e_L d 14 = K; generalize e_E d = E; rfl)
set_option maxRecDepth 20000 in
theorem B14_37 {d : Nat} {I : Nat → Nat → Int32} {z : e_Z} {x1 x2 : Int32}  : e_L d 14 37 [.ref 470, .int x1, .int x2] [] (mk I z) = (e_L d 14 11 [.ref 470, .int x1, .int (x2 + e_n 1)] [] (mk I z)) := e_L_to hd14 2 (by generalize e_L d 14 = K; generalize e_E d = E; rfl)
set_option maxRecDepth 20000 in
theorem B14_43 {d : Nat} {I : Nat → Nat → Int32} {z : e_Z} {x1 x2 : Int32}  : e_L d 14 43 [.ref 470, .int x1, .int x2] [] (mk I z) = (if e_cc .ne (I 470 9) x1 = true then (e_L d 14 70 [.ref 470, .int x1, .int x2] [] (mk I z)) else (if e_cc .ne (I 470 8) (e_n (-1)) = true then (e_L d 14 70 [.ref 470, .int x1, .int x2] [] (mk I z)) else (e_L d 14 70 [.ref 470, .int x1, .int x2] [] (mk (e_u I 470 8 (I 471 0)) z)))) := e_L_to hd14 13 (by generalize e_L d 14 = K; generalize e_E d = E; rfl)
set_option maxRecDepth 20000 in
theorem B14_70 {d : Nat} {I : Nat → Nat → Int32} {z : e_Z} {x1 x2 : Int32}  : e_L d 14 70 [.ref 470, .int x1, .int x2] [] (mk I z) = (e_rI (e_E d 17 [.ref 470] (mk I z)) (fun v σ => e_L d 14 82 [.ref 470, .int x1, .int x2] [.int v, .int (I 470 7), .ref 479] σ) (e_H (e_L d 14) 14 79 [.ref 470, .int x1, .int x2])) := e_L_to hd14 6 (by generalize e_L d 14 = K; generalize e_E d = E; rfl)
set_option maxRecDepth 20000 in
theorem B14_82 {d : Nat} {I : Nat → Nat → Int32} {z : e_Z} {x1 x2 y1 y2 : Int32}  : e_L d 14 82 [.ref 470, .int x1, .int x2] [.int y2, .int y1, .ref 479] (mk I z) = (e_rV (e_E d 170 [.ref 479, .int y1, .int y2] (mk I z)) (fun σ => e_L d 14 85 [.ref 470, .int x1, .int x2] [] σ) (e_H (e_L d 14) 14 82 [.ref 470, .int x1, .int x2])) := e_L_to hd14 1 (by generalize e_L d 14 = K; generalize e_E d = E; rfl)
set_option maxRecDepth 20000 in
theorem B14_85 {d : Nat} {I : Nat → Nat → Int32} {z : e_Z} {x1 x2 : Int32}  : e_L d 14 85 [.ref 470, .int x1, .int x2] [] (mk I z) = (e_rV (e_E d 170 [.ref 480, .int (I 470 7), .int (I 471 1)] (mk I z)) (fun σ => e_L d 14 103 [.ref 470, .int x1, .int x2] [] σ) (e_H (e_L d 14) 14 100 [.ref 470, .int x1, .int x2])) := e_L_to hd14 8 (by generalize e_L d 14 = K; generalize e_E d = E; rfl)
set_option maxRecDepth 20000 in
theorem B14_103 {d : Nat} {I : Nat → Nat → Int32} {z : e_Z} {x1 x2 : Int32}  : e_L d 14 103 [.ref 470, .int x1, .int x2] [] (mk I z) = (some (.inl none, mk (e_u (e_u I 470 7 ((I 470 7) + (e_n 1))) 471 0 (((e_u I 470 7 ((I 470 7) + (e_n 1))) 471 0) + (e_n 1))) z)) := e_L_to hd14 14 (by generalize e_L d 14 = K; generalize e_E d = E; rfl)
def hd15 : List Nat := [0, 19, 44, 60, 65]
set_option maxRecDepth 20000 in
theorem B15_0 {d : Nat} {I : Nat → Nat → Int32} {z : e_Z}  : e_L d 15 0 [.ref 470] [] (mk I z) = (if e_cc .ne (I 470 3) (I 470 7) = true then (e_L d 15 19 [.ref 470] [] (mk I z)) else (if 6 = 6 ∧ (e_n 0 = 0 ∨ e_n 0 = 1) then (e_L d 15 19 [.ref 470] [] (mk (e_u I 471 4 (e_n 0)) z)) else none)) := e_L_to hd15 9 (by generalize e_L d 15 = K; generalize e_E d = E; rfl)
set_option maxRecDepth 20000 in
theorem B15_19 {d : Nat} {I : Nat → Nat → Int32} {z : e_Z}  : e_L d 15 19 [.ref 470] [] (mk I z) = (if e_cc .ne (I 470 5) (I 470 7) = true then (e_L d 15 65 [.ref 470] [] (mk I z)) else (e_rI (e_E d 174 [.int (I 471 1), .int (I 470 4)] (mk I z)) (fun v σ => e_L d 15 44 [.ref 470] [.int v] σ) (e_H (e_L d 15) 15 41 [.ref 470]))) := e_L_to hd15 11 (by generalize e_L d 15 = K; generalize e_E d = E; rfl)
set_option maxRecDepth 20000 in
theorem B15_44 {d : Nat} {I : Nat → Nat → Int32} {z : e_Z} {y0 : Int32}  : e_L d 15 44 [.ref 470] [.int y0] (mk I z) = (if e_cc .ne y0 0 = true then (e_L d 15 65 [.ref 470] [] (mk I z)) else (e_rV (e_E d 53 [.ref 471, .int (I 470 4), .int (e_n (-2))] (mk I z)) (fun σ => e_L d 15 60 [.ref 470] [] σ) (e_H (e_L d 15) 15 57 [.ref 470]))) := e_L_to hd15 7 (by generalize e_L d 15 = K; generalize e_E d = E; rfl)
set_option maxRecDepth 20000 in
theorem B15_60 {d : Nat} {I : Nat → Nat → Int32} {z : e_Z}  : e_L d 15 60 [.ref 470] [] (mk I z) = (if 2 = 2 ∧ (e_n 1 = 0 ∨ e_n 1 = 1) then (e_L d 15 65 [.ref 470] [] (mk (e_u I 470 6 (e_n 1)) z)) else none) := e_L_to hd15 3 (by generalize e_L d 15 = K; generalize e_E d = E; rfl)
set_option maxRecDepth 20000 in
theorem B15_65 {d : Nat} {I : Nat → Nat → Int32} {z : e_Z}  : e_L d 15 65 [.ref 470] [] (mk I z) = (some (.inl none, mk I z)) := e_L_to hd15 1 (by generalize e_L d 15 = K; generalize e_E d = E; rfl)
def hd16 : List Nat := [0, 7, 31, 57, 71, 91, 103, 113]
set_option maxRecDepth 20000 in
theorem B16_0 {d : Nat} {I : Nat → Nat → Int32} {z : e_Z} {x1 : Int32}  : e_L d 16 0 [.ref 470, .int x1, .null, .null, .null, .null] [] (mk I z) = (e_L d 16 7 [.ref 470, .int x1, .int (e_n (-1)), .int (e_n 0), .int (e_n 0), .null] [] (mk I z)) := e_L_to hd16 6 (by generalize e_L d 16 = K; generalize e_E d = E; rfl)
set_option maxRecDepth 20000 in
theorem B16_7 {d : Nat} {I : Nat → Nat → Int32} {z : e_Z} {x1 x2 x3 x4 : Int32} {u5 : Value}  : e_L d 16 7 [.ref 470, .int x1, .int x2, .int x3, .int x4, u5] [] (mk I z) = (if e_cc .ge x4 (I (bd z.2.1.2.2.1) 6) = true then (if e_cc .eq x2 (e_n (-1)) = true then (e_L d 16 113 [.ref 470, .int x1, .int x2, .int x3, .int x4, u5] [] (mk I z)) else (e_rV (e_E d 53 [.ref 471, .int x2, .int x1] (mk I z)) (fun σ => e_L d 16 91 [.ref 470, .int x1, .int x2, .int x3, .int x4, u5] [] σ) (e_H (e_L d 16) 16 88 [.ref 470, .int x1, .int x2, .int x3, .int x4, u5]))) else (e_rI (e_E d 174 [.int (I 471 1), .int x4] (mk I z)) (fun v σ => e_L d 16 31 [.ref 470, .int x1, .int x2, .int x3, .int x4, u5] [.int v] σ) (e_H (e_L d 16) 16 28 [.ref 470, .int x1, .int x2, .int x3, .int x4, u5]))) := by
  rcases z with ⟨J, ⟨s, rb, _|_, tt⟩, cs, X⟩
  all_goals exact e_L_to hd16 13 (by generalize e_L d 16 = K; generalize e_E d = E; rfl)
set_option maxRecDepth 20000 in
theorem B16_31 {d : Nat} {I : Nat → Nat → Int32} {z : e_Z} {x1 x2 x3 x4 y0 : Int32} {u5 : Value}  : e_L d 16 31 [.ref 470, .int x1, .int x2, .int x3, .int x4, u5] [.int y0] (mk I z) = (if e_cc .ne y0 0 = true then (e_L d 16 71 [.ref 470, .int x1, .int x2, .int x3, .int x4, u5] [] (mk I z)) else (if e_cc .eq x4 (I 470 2) = true then (e_L d 16 71 [.ref 470, .int x1, .int x2, .int x3, .int x4, u5] [] (mk I z)) else (e_rI (e_E d 55 [.ref 471, .ref (bd z.2.1.2.2.1), .int x1, .int x4] (mk I z)) (fun v σ => e_L d 16 57 [.ref 470, .int x1, .int x2, .int x3, .int x4, u5] [.int v] σ) (e_H (e_L d 16) 16 54 [.ref 470, .int x1, .int x2, .int x3, .int x4, u5])))) := e_L_to hd16 12 (by generalize e_L d 16 = K; generalize e_E d = E; rfl)
set_option maxRecDepth 20000 in
theorem B16_57 {d : Nat} {I : Nat → Nat → Int32} {z : e_Z} {x1 x2 x3 x4 y0 : Int32} {u5 : Value}  : e_L d 16 57 [.ref 470, .int x1, .int x2, .int x3, .int x4, u5] [.int y0] (mk I z) = (if e_cc .le y0 x3 = true then (e_L d 16 71 [.ref 470, .int x1, .int x2, .int x3, .int x4, .int y0] [] (mk I z)) else (e_L d 16 71 [.ref 470, .int x1, .int x4, .int y0, .int x4, .int y0] [] (mk I z))) := e_L_to hd16 8 (by generalize e_L d 16 = K; generalize e_E d = E; rfl)
set_option maxRecDepth 20000 in
theorem B16_71 {d : Nat} {I : Nat → Nat → Int32} {z : e_Z} {x1 x2 x3 x4 : Int32} {u5 : Value}  : e_L d 16 71 [.ref 470, .int x1, .int x2, .int x3, .int x4, u5] [] (mk I z) = (e_L d 16 7 [.ref 470, .int x1, .int x2, .int x3, .int (x4 + e_n 1), u5] [] (mk I z)) := e_L_to hd16 2 (by generalize e_L d 16 = K; generalize e_E d = E; rfl)
set_option maxRecDepth 20000 in
theorem B16_91 {d : Nat} {I : Nat → Nat → Int32} {z : e_Z} {x1 x2 x3 x4 : Int32} {u5 : Value}  : e_L d 16 91 [.ref 470, .int x1, .int x2, .int x3, .int x4, u5] [] (mk I z) = (e_rV (e_E d 170 [.ref 476, .int (I 470 9), .int x2] (mk I z)) (fun σ => e_L d 16 103 [.ref 470, .int x1, .int x2, .int x3, .int x4, u5] [] σ) (e_H (e_L d 16) 16 100 [.ref 470, .int x1, .int x2, .int x3, .int x4, u5])) := e_L_to hd16 6 (by generalize e_L d 16 = K; generalize e_E d = E; rfl)
set_option maxRecDepth 20000 in
theorem B16_103 {d : Nat} {I : Nat → Nat → Int32} {z : e_Z} {x1 x2 x3 x4 : Int32} {u5 : Value}  : e_L d 16 103 [.ref 470, .int x1, .int x2, .int x3, .int x4, u5] [] (mk I z) = (e_L d 16 113 [.ref 470, .int x1, .int x2, .int x3, .int x4, u5] [] (mk (e_u I 470 9 ((I 470 9) + (e_n 1))) z)) := e_L_to hd16 6 (by generalize e_L d 16 = K; generalize e_E d = E; rfl)
set_option maxRecDepth 20000 in
theorem B16_113 {d : Nat} {I : Nat → Nat → Int32} {z : e_Z} {x1 x2 x3 x4 : Int32} {u5 : Value}  : e_L d 16 113 [.ref 470, .int x1, .int x2, .int x3, .int x4, u5] [] (mk I z) = (some (.inl none, mk I z)) := e_L_to hd16 1 (by generalize e_L d 16 = K; generalize e_E d = E; rfl)
def hd17 : List Nat := [0, 4, 33, 44, 54, 70, 84, 101, 113, 117, 132, 135]
set_option maxRecDepth 20000 in
theorem B17_0 {d : Nat} {I : Nat → Nat → Int32} {z : e_Z}  : e_L d 17 0 [.ref 470, .null, .null, .null, .null] [] (mk I z) = (e_L d 17 4 [.ref 470, .int (e_n 0), .int (e_n 0), .null, .null] [] (mk I z)) := e_L_to hd17 4 (by generalize e_L d 17 = K; generalize e_E d = E; rfl)
set_option maxRecDepth 20000 in
theorem B17_4 {d : Nat} {I : Nat → Nat → Int32} {z : e_Z} {x1 x2 : Int32} {u3 u4 : Value}  : e_L d 17 4 [.ref 470, .int x1, .int x2, u3, u4] [] (mk I z) = (if e_cc .ge x2 (I (bd z.2.1.2.2.1) 6) = true then (some (.inl (some (.int x1)), mk I z)) else (e_rI (e_E d 169 [.ref 474, .int x2] (mk I z)) (fun v σ => e_L d 17 33 [.ref 470, .int x1, .int x2, u3, u4] [.int v, .ref (bd z.2.1.2.2.1 + 1)] σ) (e_H (e_L d 17) 17 30 [.ref 470, .int x1, .int x2, u3, u4]))) := by
  rcases z with ⟨J, ⟨s, rb, _|_, tt⟩, cs, X⟩
  all_goals exact e_L_to hd17 13 (by generalize e_L d 17 = K; generalize e_E d = E; rfl)
set_option maxRecDepth 20000 in
theorem B17_33 {d : Nat} {I : Nat → Nat → Int32} {z : e_Z} {x1 x2 y1 : Int32} {u3 u4 : Value}  : e_L d 17 33 [.ref 470, .int x1, .int x2, u3, u4] [.int y1, .ref (bd z.2.1.2.2.1 + 1)] (mk I z) = (e_rI (e_E d 169 [.ref 472, .int x2] (mk I z)) (fun v σ => e_L d 17 44 [.ref 470, .int x1, .int x2, u3, u4] [.int v, .int y1, .ref (bd z.2.1.2.2.1 + 1)] σ) (e_H (e_L d 17) 17 41 [.ref 470, .int x1, .int x2, u3, u4])) := e_L_to hd17 5 (by generalize e_L d 17 = K; generalize e_E d = E; rfl)
set_option maxRecDepth 20000 in
theorem B17_44 {d : Nat} {I : Nat → Nat → Int32} {z : e_Z} {x1 x2 y1 y2 : Int32} {u3 u4 : Value}  : e_L d 17 44 [.ref 470, .int x1, .int x2, u3, u4] [.int y2, .int y1, .ref (bd z.2.1.2.2.1 + 1)] (mk I z) = (e_rI (e_E d 33 [.ref (bd z.2.1.2.2.1 + 1), .int y1, .int y2, .int (I 471 0)] (mk I z)) (fun v σ => e_L d 17 54 [.ref 470, .int x1, .int x2, u3, u4] [.int v] σ) (e_H (e_L d 17) 17 51 [.ref 470, .int x1, .int x2, u3, u4])) := by
  rcases z with ⟨J, ⟨s, rb, _|_, tt⟩, cs, X⟩
  all_goals exact e_L_to hd17 4 (by generalize e_L d 17 = K; generalize e_E d = E; rfl)
set_option maxRecDepth 20000 in
theorem B17_54 {d : Nat} {I : Nat → Nat → Int32} {z : e_Z} {x1 x2 y0 : Int32} {u3 u4 : Value}  : e_L d 17 54 [.ref 470, .int x1, .int x2, u3, u4] [.int y0] (mk I z) = (if e_cc .eq y0 0 = true then (e_L d 17 135 [.ref 470, .int x1, .int x2, .int y0, u4] [] (mk I z)) else (e_rI (e_E d 174 [.int (I 471 2), .int x2] (mk I z)) (fun v σ => e_L d 17 70 [.ref 470, .int x1, .int x2, .int y0, u4] [.int v] σ) (e_H (e_L d 17) 17 67 [.ref 470, .int x1, .int x2, .int y0, u4]))) := e_L_to hd17 8 (by generalize e_L d 17 = K; generalize e_E d = E; rfl)
set_option maxRecDepth 20000 in
theorem B17_70 {d : Nat} {I : Nat → Nat → Int32} {z : e_Z} {x1 x2 x3 y0 : Int32} {u4 : Value}  : e_L d 17 70 [.ref 470, .int x1, .int x2, .int x3, u4] [.int y0] (mk I z) = (if e_cc .ne y0 0 = true then (e_L d 17 135 [.ref 470, .int x1, .int x2, .int x3, u4] [] (mk I z)) else (e_rI (e_E d 169 [.ref 473, .int x2] (mk I z)) (fun v σ => e_L d 17 84 [.ref 470, .int x1, .int x2, .int x3, u4] [.int v] σ) (e_H (e_L d 17) 17 81 [.ref 470, .int x1, .int x2, .int x3, u4]))) := e_L_to hd17 6 (by generalize e_L d 17 = K; generalize e_E d = E; rfl)
set_option maxRecDepth 20000 in
theorem B17_84 {d : Nat} {I : Nat → Nat → Int32} {z : e_Z} {x1 x2 x3 y0 : Int32} {u4 : Value}  : e_L d 17 84 [.ref 470, .int x1, .int x2, .int x3, u4] [.int y0] (mk I z) = (e_rI (e_E d 169 [.ref 478, .int y0] (mk I z)) (fun v σ => e_L d 17 101 [.ref 470, .int x1, .int x2, .int x3, .int y0] [.int v, .int y0, .ref 478] σ) (e_H (e_L d 17) 17 98 [.ref 470, .int x1, .int x2, .int x3, .int y0])) := e_L_to hd17 8 (by generalize e_L d 17 = K; generalize e_E d = E; rfl)
set_option maxRecDepth 20000 in
theorem B17_101 {d : Nat} {I : Nat → Nat → Int32} {z : e_Z} {x1 x2 x3 x4 y1 y2 : Int32}  : e_L d 17 101 [.ref 470, .int x1, .int x2, .int x3, .int x4] [.int y2, .int y1, .ref 478] (mk I z) = (e_rI (e_E d 57 [.ref 471, .ref (bd z.2.1.2.2.1), .int x2] (mk I z)) (fun v σ => e_L d 17 113 [.ref 470, .int x1, .int x2, .int x3, .int x4] [.int v, .int y2, .int y1, .ref 478] σ) (e_H (e_L d 17) 17 110 [.ref 470, .int x1, .int x2, .int x3, .int x4])) := e_L_to hd17 6 (by generalize e_L d 17 = K; generalize e_E d = E; rfl)
set_option maxRecDepth 20000 in
theorem B17_113 {d : Nat} {I : Nat → Nat → Int32} {z : e_Z} {x1 x2 x3 x4 y1 y2 y3 : Int32}  : e_L d 17 113 [.ref 470, .int x1, .int x2, .int x3, .int x4] [.int y3, .int y2, .int y1, .ref 478] (mk I z) = (e_rV (e_E d 170 [.ref 478, .int y1, .int (y2 + y3)] (mk I z)) (fun σ => e_L d 17 117 [.ref 470, .int x1, .int x2, .int x3, .int x4] [] σ) (e_H (e_L d 17) 17 114 [.ref 470, .int x1, .int x2, .int x3, .int x4])) := e_L_to hd17 2 (by generalize e_L d 17 = K; generalize e_E d = E; rfl)
set_option maxRecDepth 20000 in
theorem B17_117 {d : Nat} {I : Nat → Nat → Int32} {z : e_Z} {x1 x2 x3 x4 : Int32}  : e_L d 17 117 [.ref 470, .int x1, .int x2, .int x3, .int x4] [] (mk I z) = (e_rV (e_E d 170 [.ref 477, .int x2, .int (I 471 0)] (mk I z)) (fun σ => e_L d 17 132 [.ref 470, .int x1, .int x2, .int x3, .int x4] [] σ) (e_H (e_L d 17) 17 129 [.ref 470, .int x1, .int x2, .int x3, .int x4])) := e_L_to hd17 7 (by generalize e_L d 17 = K; generalize e_E d = E; rfl)
set_option maxRecDepth 20000 in
theorem B17_132 {d : Nat} {I : Nat → Nat → Int32} {z : e_Z} {x1 x2 x3 x4 : Int32}  : e_L d 17 132 [.ref 470, .int x1, .int x2, .int x3, .int x4] [] (mk I z) = (e_L d 17 135 [.ref 470, .int (x1 + e_n 1), .int x2, .int x3, .int x4] [] (mk I z)) := e_L_to hd17 1 (by generalize e_L d 17 = K; generalize e_E d = E; rfl)
set_option maxRecDepth 20000 in
theorem B17_135 {d : Nat} {I : Nat → Nat → Int32} {z : e_Z} {x1 x2 x3 : Int32} {u4 : Value}  : e_L d 17 135 [.ref 470, .int x1, .int x2, .int x3, u4] [] (mk I z) = (e_L d 17 4 [.ref 470, .int x1, .int (x2 + e_n 1), .int x3, u4] [] (mk I z)) := e_L_to hd17 2 (by generalize e_L d 17 = K; generalize e_E d = E; rfl)
def hd18 : List Nat := [0, 16, 20]
set_option maxRecDepth 20000 in
theorem B18_0 {d : Nat} {I : Nat → Nat → Int32} {z : e_Z} {x1 : Int32}  : e_L d 18 0 [.ref 470, .int x1] [] (mk I z) = (if e_cc .ge x1 (I 470 9) = true then (e_L d 18 20 [.ref 470, .int x1] [.int (e_n (-1))] (mk I z)) else (e_rI (e_E d 169 [.ref 476, .int x1] (mk I z)) (fun v σ => e_L d 18 16 [.ref 470, .int x1] [.int v] σ) (e_H (e_L d 18) 18 13 [.ref 470, .int x1]))) := e_L_to hd18 8 (by generalize e_L d 18 = K; generalize e_E d = E; rfl)
set_option maxRecDepth 20000 in
theorem B18_16 {d : Nat} {I : Nat → Nat → Int32} {z : e_Z} {x1 y0 : Int32}  : e_L d 18 16 [.ref 470, .int x1] [.int y0] (mk I z) = (e_L d 18 20 [.ref 470, .int x1] [.int y0] (mk I z)) := e_L_to hd18 1 (by generalize e_L d 18 = K; generalize e_E d = E; rfl)
set_option maxRecDepth 20000 in
theorem B18_20 {d : Nat} {I : Nat → Nat → Int32} {z : e_Z} {x1 y0 : Int32}  : e_L d 18 20 [.ref 470, .int x1] [.int y0] (mk I z) = (some (.inl (some (.int y0)), mk I z)) := e_L_to hd18 1 (by generalize e_L d 18 = K; generalize e_E d = E; rfl)
def hd19 : List Nat := [0, 2, 18]
set_option maxRecDepth 20000 in
theorem B19_0 {d : Nat} {I : Nat → Nat → Int32} {z : e_Z} {x1 : Int32}  : e_L d 19 0 [.ref 470, .int x1, .null] [] (mk I z) = (e_L d 19 2 [.ref 470, .int x1, .int (e_n 0)] [] (mk I z)) := e_L_to hd19 2 (by generalize e_L d 19 = K; generalize e_E d = E; rfl)
set_option maxRecDepth 20000 in
theorem B19_2 {d : Nat} {I : Nat → Nat → Int32} {z : e_Z} {x1 x2 : Int32}  : e_L d 19 2 [.ref 470, .int x1, .int x2] [] (mk I z) = (if e_cc .ge x2 (I 470 9) = true then (some (.inl (some (.int (e_n (-1)))), mk I z)) else (e_rI (e_E d 169 [.ref 476, .int x2] (mk I z)) (fun v σ => e_L d 19 18 [.ref 470, .int x1, .int x2] [.int v] σ) (e_H (e_L d 19) 19 15 [.ref 470, .int x1, .int x2]))) := e_L_to hd19 8 (by generalize e_L d 19 = K; generalize e_E d = E; rfl)
set_option maxRecDepth 20000 in
theorem B19_18 {d : Nat} {I : Nat → Nat → Int32} {z : e_Z} {x1 x2 y0 : Int32}  : e_L d 19 18 [.ref 470, .int x1, .int x2] [.int y0] (mk I z) = (if e_cc .ne y0 x1 = true then (e_L d 19 2 [.ref 470, .int x1, .int (x2 + e_n 1)] [] (mk I z)) else (some (.inl (some (.int x2)), mk I z))) := e_L_to hd19 4 (by generalize e_L d 19 = K; generalize e_E d = E; rfl)
def hd20 : List Nat := [0, 16, 26]
set_option maxRecDepth 20000 in
theorem B20_0 {d : Nat} {I : Nat → Nat → Int32} {z : e_Z} {x1 : Int32}  : e_L d 20 0 [.ref 470, .int x1] [] (mk I z) = (if e_cc .ge x1 (I 470 7) = true then (e_L d 20 26 [.ref 470, .int x1] [.int (I 471 1)] (mk I z)) else (e_rI (e_E d 169 [.ref 480, .int x1] (mk I z)) (fun v σ => e_L d 20 16 [.ref 470, .int x1] [.int v] σ) (e_H (e_L d 20) 20 13 [.ref 470, .int x1]))) := e_L_to hd20 8 (by generalize e_L d 20 = K; generalize e_E d = E; rfl)
set_option maxRecDepth 20000 in
theorem B20_16 {d : Nat} {I : Nat → Nat → Int32} {z : e_Z} {x1 y0 : Int32}  : e_L d 20 16 [.ref 470, .int x1] [.int y0] (mk I z) = (e_L d 20 26 [.ref 470, .int x1] [.int y0] (mk I z)) := e_L_to hd20 1 (by generalize e_L d 20 = K; generalize e_E d = E; rfl)
set_option maxRecDepth 20000 in
theorem B20_26 {d : Nat} {I : Nat → Nat → Int32} {z : e_Z} {x1 y0 : Int32}  : e_L d 20 26 [.ref 470, .int x1] [.int y0] (mk I z) = (some (.inl (some (.int y0)), mk I z)) := e_L_to hd20 1 (by generalize e_L d 20 = K; generalize e_E d = E; rfl)
def hd22 : List Nat := [0, 32, 44, 60, 78, 90, 106]
set_option maxRecDepth 20000 in
theorem B22_0 {d : Nat} {I : Nat → Nat → Int32} {z : e_Z} {b : Nat}  : e_L d 22 0 [.ref 481, .ref b, .ref 50, .ref 470, .null, .null] [] (mk I z) = (e_L d 22 32 [.ref 481, .ref b, .ref 50, .ref 470, .int (e_n 0), .null] [] (mk (e_u (e_u (e_u I 481 0 (e_n 0)) 481 1 (e_n (-1))) 481 2 (e_min (e_n 30) ((e_n 60) - ((e_u (e_u I 481 0 (e_n 0)) 481 1 (e_n (-1))) 51 0)))) z)) := e_L_to hd22 17 (by generalize e_L d 22 = K; generalize e_E d = E; rfl)
set_option maxRecDepth 20000 in
theorem B22_32 {d : Nat} {I : Nat → Nat → Int32} {z : e_Z} {b : Nat} {x4 : Int32} {u5 : Value} (hb : B2 b) : e_L d 22 32 [.ref 481, .ref b, .ref 50, .ref 470, .int x4, u5] [] (mk I z) = (if e_cc .ge x4 (I b 6) = true then (some (.inl none, mk I z)) else (e_L d 22 44 [.ref 481, .ref b, .ref 50, .ref 470, .int x4, .int (e_n 0)] [] (mk I z))) := by
  rcases hb with rfl | rfl
  all_goals exact e_L_to hd22 6 (by generalize e_L d 22 = K; generalize e_E d = E; rfl)
set_option maxRecDepth 20000 in
theorem B22_44 {d : Nat} {I : Nat → Nat → Int32} {z : e_Z} {b : Nat} {x4 x5 : Int32}  : e_L d 22 44 [.ref 481, .ref b, .ref 50, .ref 470, .int x4, .int x5] [] (mk I z) = (if e_cc .ge x5 (e_n 10) = true then (e_L d 22 32 [.ref 481, .ref b, .ref 50, .ref 470, .int (x4 + e_n 1), .int x5] [] (mk I z)) else (e_rV (e_E d 12 [.ref 470, .ref b, .ref 51] (mk I z)) (fun σ => e_L d 22 60 [.ref 481, .ref b, .ref 50, .ref 470, .int x4, .int x5] [] σ) (e_H (e_L d 22) 22 57 [.ref 481, .ref b, .ref 50, .ref 470, .int x4, .int x5]))) := e_L_to hd22 8 (by generalize e_L d 22 = K; generalize e_E d = E; rfl)
set_option maxRecDepth 20000 in
theorem B22_60 {d : Nat} {I : Nat → Nat → Int32} {z : e_Z} {b : Nat} {x4 x5 : Int32}  : e_L d 22 60 [.ref 481, .ref b, .ref 50, .ref 470, .int x4, .int x5] [] (mk I z) = (e_rV (e_E d 13 [.ref 470, .int (e_n 30)] (mk (e_u (e_u I 470 4 x4) 470 5 x5) z)) (fun σ => e_L d 22 78 [.ref 481, .ref b, .ref 50, .ref 470, .int x4, .int x5] [] σ) (e_H (e_L d 22) 22 75 [.ref 481, .ref b, .ref 50, .ref 470, .int x4, .int x5])) := e_L_to hd22 9 (by generalize e_L d 22 = K; generalize e_E d = E; rfl)
set_option maxRecDepth 20000 in
theorem B22_78 {d : Nat} {I : Nat → Nat → Int32} {z : e_Z} {b : Nat} {x4 x5 : Int32}  : e_L d 22 78 [.ref 481, .ref b, .ref 50, .ref 470, .int x4, .int x5] [] (mk I z) = (if e_cc .eq (I 470 6) 0 = true then (e_L d 22 106 [.ref 481, .ref b, .ref 50, .ref 470, .int x4, .int x5] [] (mk I z)) else (e_rI (e_E d 100 [.ref 50, .ref 470] (mk I z)) (fun v σ => e_L d 22 90 [.ref 481, .ref b, .ref 50, .ref 470, .int x4, .int x5] [.int v] σ) (e_H (e_L d 22) 22 87 [.ref 481, .ref b, .ref 50, .ref 470, .int x4, .int x5]))) := e_L_to hd22 6 (by generalize e_L d 22 = K; generalize e_E d = E; rfl)
set_option maxRecDepth 20000 in
theorem B22_90 {d : Nat} {I : Nat → Nat → Int32} {z : e_Z} {b : Nat} {x4 x5 y0 : Int32}  : e_L d 22 90 [.ref 481, .ref b, .ref 50, .ref 470, .int x4, .int x5] [.int y0] (mk I z) = (if e_cc .eq y0 0 = true then (e_L d 22 106 [.ref 481, .ref b, .ref 50, .ref 470, .int x4, .int x5] [] (mk I z)) else (e_rV (e_E d 23 [.ref 481, .int (((e_n 100) * x4) + x5), .ref 470] (mk I z)) (fun σ => e_L d 22 106 [.ref 481, .ref b, .ref 50, .ref 470, .int x4, .int x5] [] σ) (e_H (e_L d 22) 22 103 [.ref 481, .ref b, .ref 50, .ref 470, .int x4, .int x5]))) := e_L_to hd22 9 (by generalize e_L d 22 = K; generalize e_E d = E; rfl)
set_option maxRecDepth 20000 in
theorem B22_106 {d : Nat} {I : Nat → Nat → Int32} {z : e_Z} {b : Nat} {x4 x5 : Int32}  : e_L d 22 106 [.ref 481, .ref b, .ref 50, .ref 470, .int x4, .int x5] [] (mk I z) = (e_L d 22 44 [.ref 481, .ref b, .ref 50, .ref 470, .int x4, .int (x5 + e_n 1)] [] (mk I z)) := e_L_to hd22 2 (by generalize e_L d 22 = K; generalize e_E d = E; rfl)
def hd23 : List Nat := [0, 13, 15, 41, 44]
set_option maxRecDepth 20000 in
theorem B23_0 {d : Nat} {I : Nat → Nat → Int32} {z : e_Z} {x1 : Int32}  : e_L d 23 0 [.ref 481, .int x1, .ref 470, .null] [] (mk I z) = (if e_cc .ne (I 481 1) (e_n (-1)) = true then (e_L d 23 13 [.ref 481, .int x1, .ref 470, .null] [] (mk I z)) else (e_L d 23 13 [.ref 481, .int x1, .ref 470, .null] [] (mk (e_u I 481 1 x1) z))) := e_L_to hd23 7 (by generalize e_L d 23 = K; generalize e_E d = E; rfl)
set_option maxRecDepth 20000 in
theorem B23_13 {d : Nat} {I : Nat → Nat → Int32} {z : e_Z} {x1 : Int32}  : e_L d 23 13 [.ref 481, .int x1, .ref 470, .null] [] (mk I z) = (e_L d 23 15 [.ref 481, .int x1, .ref 470, .int (e_n 0)] [] (mk I z)) := e_L_to hd23 2 (by generalize e_L d 23 = K; generalize e_E d = E; rfl)
set_option maxRecDepth 20000 in
theorem B23_15 {d : Nat} {I : Nat → Nat → Int32} {z : e_Z} {x1 x3 : Int32}  : e_L d 23 15 [.ref 481, .int x1, .ref 470, .int x3] [] (mk I z) = (if e_cc .ge x3 (I 481 2) = true then (some (.inl none, mk (e_u I 481 0 ((I 481 0) + (e_n 1))) z)) else (e_rI (e_E d 20 [.ref 470, .int x3] (mk I z)) (fun v σ => e_L d 23 41 [.ref 481, .int x1, .ref 470, .int x3] [.int v, .int (((I 481 0) * (e_n 30)) + x3), .ref 482] σ) (e_H (e_L d 23) 23 38 [.ref 481, .int x1, .ref 470, .int x3]))) := e_L_to hd23 15 (by generalize e_L d 23 = K; generalize e_E d = E; rfl)
set_option maxRecDepth 20000 in
theorem B23_41 {d : Nat} {I : Nat → Nat → Int32} {z : e_Z} {x1 x3 y1 y2 : Int32}  : e_L d 23 41 [.ref 481, .int x1, .ref 470, .int x3] [.int y2, .int y1, .ref 482] (mk I z) = (e_rV (e_E d 170 [.ref 482, .int y1, .int y2] (mk I z)) (fun σ => e_L d 23 44 [.ref 481, .int x1, .ref 470, .int x3] [] σ) (e_H (e_L d 23) 23 41 [.ref 481, .int x1, .ref 470, .int x3])) := e_L_to hd23 1 (by generalize e_L d 23 = K; generalize e_E d = E; rfl)
set_option maxRecDepth 20000 in
theorem B23_44 {d : Nat} {I : Nat → Nat → Int32} {z : e_Z} {x1 x3 : Int32}  : e_L d 23 44 [.ref 481, .int x1, .ref 470, .int x3] [] (mk I z) = (e_L d 23 15 [.ref 481, .int x1, .ref 470, .int (x3 + e_n 1)] [] (mk I z)) := e_L_to hd23 2 (by generalize e_L d 23 = K; generalize e_E d = E; rfl)
def hd24 : List Nat := [0, 4, 18, 42, 56, 64, 72, 83]
set_option maxRecDepth 20000 in
theorem B24_0 {d : Nat} {I : Nat → Nat → Int32} {z : e_Z} {x1 : Int32}  : e_L d 24 0 [.ref 481, .int x1, .null, .null, .null, .null] [] (mk I z) = (e_L d 24 4 [.ref 481, .int x1, .int (e_n 0), .int (e_n 0), .null, .null] [] (mk I z)) := e_L_to hd24 4 (by generalize e_L d 24 = K; generalize e_E d = E; rfl)
set_option maxRecDepth 20000 in
theorem B24_4 {d : Nat} {I : Nat → Nat → Int32} {z : e_Z} {x1 x2 x3 : Int32} {u4 u5 : Value}  : e_L d 24 4 [.ref 481, .int x1, .int x2, .int x3, u4, u5] [] (mk I z) = (if e_cc .ge x3 (I 481 0) = true then (some (.inl (some (.int x2)), mk I z)) else (e_L d 24 18 [.ref 481, .int x1, .int x2, .int x3, .int (e_n 1), .int (e_n 0)] [] (mk I z))) := e_L_to hd24 8 (by generalize e_L d 24 = K; generalize e_E d = E; rfl)
set_option maxRecDepth 20000 in
theorem B24_18 {d : Nat} {I : Nat → Nat → Int32} {z : e_Z} {x1 x2 x3 x4 x5 : Int32}  : e_L d 24 18 [.ref 481, .int x1, .int x2, .int x3, .int x4, .int x5] [] (mk I z) = (if e_cc .ge x5 x3 = true then (e_L d 24 72 [.ref 481, .int x1, .int x2, .int x3, .int x4, .int x5] [] (mk I z)) else (if e_cc .eq x4 0 = true then (e_L d 24 72 [.ref 481, .int x1, .int x2, .int x3, .int x4, .int x5] [] (mk I z)) else (e_rI (e_E d 169 [.ref 482, .int ((x3 * (e_n 30)) + x1)] (mk I z)) (fun v σ => e_L d 24 42 [.ref 481, .int x1, .int x2, .int x3, .int x4, .int x5] [.int v] σ) (e_H (e_L d 24) 24 39 [.ref 481, .int x1, .int x2, .int x3, .int x4, .int x5])))) := e_L_to hd24 13 (by generalize e_L d 24 = K; generalize e_E d = E; rfl)
set_option maxRecDepth 20000 in
theorem B24_42 {d : Nat} {I : Nat → Nat → Int32} {z : e_Z} {x1 x2 x3 x4 x5 y0 : Int32}  : e_L d 24 42 [.ref 481, .int x1, .int x2, .int x3, .int x4, .int x5] [.int y0] (mk I z) = (e_rI (e_E d 169 [.ref 482, .int ((x5 * (e_n 30)) + x1)] (mk I z)) (fun v σ => e_L d 24 56 [.ref 481, .int x1, .int x2, .int x3, .int x4, .int x5] [.int v, .int y0] σ) (e_H (e_L d 24) 24 53 [.ref 481, .int x1, .int x2, .int x3, .int x4, .int x5])) := e_L_to hd24 8 (by generalize e_L d 24 = K; generalize e_E d = E; rfl)
set_option maxRecDepth 20000 in
theorem B24_56 {d : Nat} {I : Nat → Nat → Int32} {z : e_Z} {x1 x2 x3 x4 x5 y0 y1 : Int32}  : e_L d 24 56 [.ref 481, .int x1, .int x2, .int x3, .int x4, .int x5] [.int y1, .int y0] (mk I z) = (if e_cc .eq y0 y1 = true then (e_L d 24 64 [.ref 481, .int x1, .int x2, .int x3, .int x4, .int x5] [.int (e_n 0)] (mk I z)) else (e_L d 24 64 [.ref 481, .int x1, .int x2, .int x3, .int x4, .int x5] [.int (e_n 1)] (mk I z))) := e_L_to hd24 3 (by generalize e_L d 24 = K; generalize e_E d = E; rfl)
set_option maxRecDepth 20000 in
theorem B24_64 {d : Nat} {I : Nat → Nat → Int32} {z : e_Z} {x1 x2 x3 x4 x5 y0 : Int32}  : e_L d 24 64 [.ref 481, .int x1, .int x2, .int x3, .int x4, .int x5] [.int y0] (mk I z) = (e_L d 24 18 [.ref 481, .int x1, .int x2, .int x3, .int y0, .int (x5 + e_n 1)] [] (mk I z)) := e_L_to hd24 3 (by generalize e_L d 24 = K; generalize e_E d = E; rfl)
set_option maxRecDepth 20000 in
theorem B24_72 {d : Nat} {I : Nat → Nat → Int32} {z : e_Z} {x1 x2 x3 x4 x5 : Int32}  : e_L d 24 72 [.ref 481, .int x1, .int x2, .int x3, .int x4, .int x5] [] (mk I z) = (if e_cc .eq x4 0 = true then (e_L d 24 83 [.ref 481, .int x1, .int x2, .int x3, .int x4, .int x5] [.int (e_n 0), .int x2] (mk I z)) else (e_L d 24 83 [.ref 481, .int x1, .int x2, .int x3, .int x4, .int x5] [.int (e_n 1), .int x2] (mk I z))) := e_L_to hd24 5 (by generalize e_L d 24 = K; generalize e_E d = E; rfl)
set_option maxRecDepth 20000 in
theorem B24_83 {d : Nat} {I : Nat → Nat → Int32} {z : e_Z} {x1 x2 x3 x4 x5 y0 y1 : Int32}  : e_L d 24 83 [.ref 481, .int x1, .int x2, .int x3, .int x4, .int x5] [.int y1, .int y0] (mk I z) = (e_L d 24 4 [.ref 481, .int x1, .int (y0 + y1), .int (x3 + e_n 1), .int x4, .int x5] [] (mk I z)) := e_L_to hd24 4 (by generalize e_L d 24 = K; generalize e_E d = E; rfl)
def hd26 : List Nat := [0, 12]
set_option maxRecDepth 20000 in
theorem B26_0 {d : Nat} {I : Nat → Nat → Int32} {z : e_Z} {b : Nat} {x1 : Int32} (hb : B2 b) : e_L d 26 0 [.ref (b + 1), .int x1] [] (mk I z) = (e_rV (e_E d 170 [.ref (b + 2), .int (I (b + 1) 0), .int x1] (mk I z)) (fun σ => e_L d 26 12 [.ref (b + 1), .int x1] [] σ) (e_H (e_L d 26) 26 9 [.ref (b + 1), .int x1])) := by
  rcases hb with rfl | rfl
  all_goals exact e_L_to hd26 6 (by generalize e_L d 26 = K; generalize e_E d = E; rfl)
set_option maxRecDepth 20000 in
theorem B26_12 {d : Nat} {I : Nat → Nat → Int32} {z : e_Z} {b : Nat} {x1 : Int32} (hb : B2 b) : e_L d 26 12 [.ref (b + 1), .int x1] [] (mk I z) = (some (.inl none, mk (e_u I (b + 1) 0 ((I (b + 1) 0) + (e_n 1))) z)) := by
  rcases hb with rfl | rfl
  all_goals exact e_L_to hd26 7 (by generalize e_L d 26 = K; generalize e_E d = E; rfl)
def hd27 : List Nat := [0, 12, 24, 36]
set_option maxRecDepth 20000 in
theorem B27_0 {d : Nat} {I : Nat → Nat → Int32} {z : e_Z} {b : Nat} {x1 x2 x3 : Int32} (hb : B2 b) : e_L d 27 0 [.ref (b + 1), .int x1, .int x2, .int x3] [] (mk I z) = (e_rV (e_E d 170 [.ref (b + 3), .int (I (b + 1) 1), .int x1] (mk I z)) (fun σ => e_L d 27 12 [.ref (b + 1), .int x1, .int x2, .int x3] [] σ) (e_H (e_L d 27) 27 9 [.ref (b + 1), .int x1, .int x2, .int x3])) := by
  rcases hb with rfl | rfl
  all_goals exact e_L_to hd27 6 (by generalize e_L d 27 = K; generalize e_E d = E; rfl)
set_option maxRecDepth 20000 in
theorem B27_12 {d : Nat} {I : Nat → Nat → Int32} {z : e_Z} {b : Nat} {x1 x2 x3 : Int32} (hb : B2 b) : e_L d 27 12 [.ref (b + 1), .int x1, .int x2, .int x3] [] (mk I z) = (e_rV (e_E d 170 [.ref (b + 4), .int (I (b + 1) 1), .int x2] (mk I z)) (fun σ => e_L d 27 24 [.ref (b + 1), .int x1, .int x2, .int x3] [] σ) (e_H (e_L d 27) 27 21 [.ref (b + 1), .int x1, .int x2, .int x3])) := by
  rcases hb with rfl | rfl
  all_goals exact e_L_to hd27 6 (by generalize e_L d 27 = K; generalize e_E d = E; rfl)
set_option maxRecDepth 20000 in
theorem B27_24 {d : Nat} {I : Nat → Nat → Int32} {z : e_Z} {b : Nat} {x1 x2 x3 : Int32} (hb : B2 b) : e_L d 27 24 [.ref (b + 1), .int x1, .int x2, .int x3] [] (mk I z) = (e_rV (e_E d 170 [.ref (b + 5), .int (I (b + 1) 1), .int x3] (mk I z)) (fun σ => e_L d 27 36 [.ref (b + 1), .int x1, .int x2, .int x3] [] σ) (e_H (e_L d 27) 27 33 [.ref (b + 1), .int x1, .int x2, .int x3])) := by
  rcases hb with rfl | rfl
  all_goals exact e_L_to hd27 6 (by generalize e_L d 27 = K; generalize e_E d = E; rfl)
set_option maxRecDepth 20000 in
theorem B27_36 {d : Nat} {I : Nat → Nat → Int32} {z : e_Z} {b : Nat} {x1 x2 x3 : Int32} (hb : B2 b) : e_L d 27 36 [.ref (b + 1), .int x1, .int x2, .int x3] [] (mk I z) = (some (.inl none, mk (e_u I (b + 1) 1 ((I (b + 1) 1) + (e_n 1))) z)) := by
  rcases hb with rfl | rfl
  all_goals exact e_L_to hd27 7 (by generalize e_L d 27 = K; generalize e_E d = E; rfl)
def hd28 : List Nat := [0, 8, 17]
set_option maxRecDepth 20000 in
theorem B28_0 {d : Nat} {I : Nat → Nat → Int32} {z : e_Z} {b : Nat} {x1 : Int32} (hb : B2 b) : e_L d 28 0 [.ref (b + 1), .int x1] [] (mk I z) = (e_rI (e_E d 169 [.ref (b + 2), .int x1] (mk I z)) (fun v σ => e_L d 28 8 [.ref (b + 1), .int x1] [.int v] σ) (e_H (e_L d 28) 28 5 [.ref (b + 1), .int x1])) := by
  rcases hb with rfl | rfl
  all_goals exact e_L_to hd28 4 (by generalize e_L d 28 = K; generalize e_E d = E; rfl)
set_option maxRecDepth 20000 in
theorem B28_8 {d : Nat} {I : Nat → Nat → Int32} {z : e_Z} {b : Nat} {x1 y0 : Int32}  : e_L d 28 8 [.ref (b + 1), .int x1] [.int y0] (mk I z) = (if e_cc .ne y0 (e_n (-1)) = true then (e_L d 28 17 [.ref (b + 1), .int x1] [.int (e_n 0)] (mk I z)) else (e_L d 28 17 [.ref (b + 1), .int x1] [.int (e_n 1)] (mk I z))) := e_L_to hd28 4 (by generalize e_L d 28 = K; generalize e_E d = E; rfl)
set_option maxRecDepth 20000 in
theorem B28_17 {d : Nat} {I : Nat → Nat → Int32} {z : e_Z} {b : Nat} {x1 y0 : Int32}  : e_L d 28 17 [.ref (b + 1), .int x1] [.int y0] (mk I z) = (if y0 = 0 ∨ y0 = 1 then some (.inl (some (.int y0)), mk I z) else none) := e_L_to hd28 1 (by generalize e_L d 28 = K; generalize e_E d = E; rfl)
def hd29 : List Nat := [0, 4, 17, 25, 27]
set_option maxRecDepth 20000 in
theorem B29_0 {d : Nat} {I : Nat → Nat → Int32} {z : e_Z} {b : Nat}  : e_L d 29 0 [.ref (b + 1), .null, .null] [] (mk I z) = (e_L d 29 4 [.ref (b + 1), .int (e_n 0), .int (e_n 0)] [] (mk I z)) := e_L_to hd29 4 (by generalize e_L d 29 = K; generalize e_E d = E; rfl)
set_option maxRecDepth 20000 in
theorem B29_4 {d : Nat} {I : Nat → Nat → Int32} {z : e_Z} {b : Nat} {x1 x2 : Int32} (hb : B2 b) : e_L d 29 4 [.ref (b + 1), .int x1, .int x2] [] (mk I z) = (if e_cc .ge x2 (I (b + 1) 0) = true then (some (.inl (some (.int x1)), mk I z)) else (e_rI (e_E d 28 [.ref (b + 1), .int x2] (mk I z)) (fun v σ => e_L d 29 17 [.ref (b + 1), .int x1, .int x2] [.int v] σ) (e_H (e_L d 29) 29 14 [.ref (b + 1), .int x1, .int x2]))) := by
  rcases hb with rfl | rfl
  all_goals exact e_L_to hd29 7 (by generalize e_L d 29 = K; generalize e_E d = E; rfl)
set_option maxRecDepth 20000 in
theorem B29_17 {d : Nat} {I : Nat → Nat → Int32} {z : e_Z} {b : Nat} {x1 x2 y0 : Int32}  : e_L d 29 17 [.ref (b + 1), .int x1, .int x2] [.int y0] (mk I z) = (if e_cc .eq y0 0 = true then (e_L d 29 27 [.ref (b + 1), .int x1, .int x2] [] (mk I z)) else (e_rI (e_E d 173 [.int x2] (mk I z)) (fun v σ => e_L d 29 25 [.ref (b + 1), .int x1, .int x2] [.int v, .int x1] σ) (e_H (e_L d 29) 29 22 [.ref (b + 1), .int x1, .int x2]))) := e_L_to hd29 4 (by generalize e_L d 29 = K; generalize e_E d = E; rfl)
set_option maxRecDepth 20000 in
theorem B29_25 {d : Nat} {I : Nat → Nat → Int32} {z : e_Z} {b : Nat} {x1 x2 y0 y1 : Int32}  : e_L d 29 25 [.ref (b + 1), .int x1, .int x2] [.int y1, .int y0] (mk I z) = (e_L d 29 27 [.ref (b + 1), .int (y0 ||| y1), .int x2] [] (mk I z)) := e_L_to hd29 2 (by generalize e_L d 29 = K; generalize e_E d = E; rfl)
set_option maxRecDepth 20000 in
theorem B29_27 {d : Nat} {I : Nat → Nat → Int32} {z : e_Z} {b : Nat} {x1 x2 : Int32}  : e_L d 29 27 [.ref (b + 1), .int x1, .int x2] [] (mk I z) = (e_L d 29 4 [.ref (b + 1), .int x1, .int (x2 + e_n 1)] [] (mk I z)) := e_L_to hd29 2 (by generalize e_L d 29 = K; generalize e_E d = E; rfl)
def hd30 : List Nat := [0, 14, 17, 22]
set_option maxRecDepth 20000 in
theorem B30_0 {d : Nat} {I : Nat → Nat → Int32} {z : e_Z} {b : Nat} {x1 x2 x3 : Int32} (hb : B2 b) : e_L d 30 0 [.ref (b + 1), .int x1, .int x2, .int x3] [] (mk I z) = (if e_cc .eq x1 x3 = true then (e_L d 30 17 [.ref (b + 1), .int x1, .int x2, .int x3] [] (mk I z)) else (e_rI (e_E d 169 [.ref (b + 5), .int x1] (mk I z)) (fun v σ => e_L d 30 14 [.ref (b + 1), .int x1, .int x2, .int x3] [.int v, .int x2] σ) (e_H (e_L d 30) 30 11 [.ref (b + 1), .int x1, .int x2, .int x3]))) := by
  rcases hb with rfl | rfl
  all_goals exact e_L_to hd30 8 (by generalize e_L d 30 = K; generalize e_E d = E; rfl)
set_option maxRecDepth 20000 in
theorem B30_14 {d : Nat} {I : Nat → Nat → Int32} {z : e_Z} {b : Nat} {x1 x2 x3 y0 y1 : Int32}  : e_L d 30 14 [.ref (b + 1), .int x1, .int x2, .int x3] [.int y1, .int y0] (mk I z) = (if e_cc .ge y0 y1 = true then (e_L d 30 22 [.ref (b + 1), .int x1, .int x2, .int x3] [.int (e_n 0)] (mk I z)) else (e_L d 30 17 [.ref (b + 1), .int x1, .int x2, .int x3] [] (mk I z))) := e_L_to hd30 2 (by generalize e_L d 30 = K; generalize e_E d = E; rfl)
set_option maxRecDepth 20000 in
theorem B30_17 {d : Nat} {I : Nat → Nat → Int32} {z : e_Z} {b : Nat} {x1 x2 x3 : Int32}  : e_L d 30 17 [.ref (b + 1), .int x1, .int x2, .int x3] [] (mk I z) = (e_L d 30 22 [.ref (b + 1), .int x1, .int x2, .int x3] [.int (e_n 1)] (mk I z)) := e_L_to hd30 2 (by generalize e_L d 30 = K; generalize e_E d = E; rfl)
set_option maxRecDepth 20000 in
theorem B30_22 {d : Nat} {I : Nat → Nat → Int32} {z : e_Z} {b : Nat} {x1 x2 x3 y0 : Int32}  : e_L d 30 22 [.ref (b + 1), .int x1, .int x2, .int x3] [.int y0] (mk I z) = (if y0 = 0 ∨ y0 = 1 then some (.inl (some (.int y0)), mk I z) else none) := e_L_to hd30 1 (by generalize e_L d 30 = K; generalize e_E d = E; rfl)
def hd31 : List Nat := [0, 8, 20, 29, 41, 45]
set_option maxRecDepth 20000 in
theorem B31_0 {d : Nat} {I : Nat → Nat → Int32} {z : e_Z} {b : Nat} {x1 x2 : Int32} (hb : B2 b) : e_L d 31 0 [.ref (b + 1), .int x1, .int x2] [] (mk I z) = (e_rI (e_E d 169 [.ref (b + 3), .int x1] (mk I z)) (fun v σ => e_L d 31 8 [.ref (b + 1), .int x1, .int x2] [.int v] σ) (e_H (e_L d 31) 31 5 [.ref (b + 1), .int x1, .int x2])) := by
  rcases hb with rfl | rfl
  all_goals exact e_L_to hd31 4 (by generalize e_L d 31 = K; generalize e_E d = E; rfl)
set_option maxRecDepth 20000 in
theorem B31_8 {d : Nat} {I : Nat → Nat → Int32} {z : e_Z} {b : Nat} {x1 x2 y0 : Int32} (hb : B2 b) : e_L d 31 8 [.ref (b + 1), .int x1, .int x2] [.int y0] (mk I z) = (if e_cc .ne y0 x2 = true then (e_rI (e_E d 169 [.ref (b + 4), .int x1] (mk I z)) (fun v σ => e_L d 31 29 [.ref (b + 1), .int x1, .int x2] [.int v] σ) (e_H (e_L d 31) 31 26 [.ref (b + 1), .int x1, .int x2])) else (e_rI (e_E d 169 [.ref (b + 4), .int x1] (mk I z)) (fun v σ => e_L d 31 20 [.ref (b + 1), .int x1, .int x2] [.int v] σ) (e_H (e_L d 31) 31 17 [.ref (b + 1), .int x1, .int x2]))) := by
  rcases hb with rfl | rfl
  all_goals exact e_L_to hd31 6 (by generalize e_L d 31 = K; generalize e_E d = E; rfl)
set_option maxRecDepth 20000 in
theorem B31_20 {d : Nat} {I : Nat → Nat → Int32} {z : e_Z} {b : Nat} {x1 x2 y0 : Int32}  : e_L d 31 20 [.ref (b + 1), .int x1, .int x2] [.int y0] (mk I z) = (some (.inl (some (.int y0)), mk I z)) := e_L_to hd31 1 (by generalize e_L d 31 = K; generalize e_E d = E; rfl)
set_option maxRecDepth 20000 in
theorem B31_29 {d : Nat} {I : Nat → Nat → Int32} {z : e_Z} {b : Nat} {x1 x2 y0 : Int32} (hb : B2 b) : e_L d 31 29 [.ref (b + 1), .int x1, .int x2] [.int y0] (mk I z) = (if e_cc .ne y0 x2 = true then (e_L d 31 45 [.ref (b + 1), .int x1, .int x2] [.int (e_n (-1))] (mk I z)) else (e_rI (e_E d 169 [.ref (b + 3), .int x1] (mk I z)) (fun v σ => e_L d 31 41 [.ref (b + 1), .int x1, .int x2] [.int v] σ) (e_H (e_L d 31) 31 38 [.ref (b + 1), .int x1, .int x2]))) := by
  rcases hb with rfl | rfl
  all_goals exact e_L_to hd31 6 (by generalize e_L d 31 = K; generalize e_E d = E; rfl)
set_option maxRecDepth 20000 in
theorem B31_41 {d : Nat} {I : Nat → Nat → Int32} {z : e_Z} {b : Nat} {x1 x2 y0 : Int32}  : e_L d 31 41 [.ref (b + 1), .int x1, .int x2] [.int y0] (mk I z) = (e_L d 31 45 [.ref (b + 1), .int x1, .int x2] [.int y0] (mk I z)) := e_L_to hd31 1 (by generalize e_L d 31 = K; generalize e_E d = E; rfl)
set_option maxRecDepth 20000 in
theorem B31_45 {d : Nat} {I : Nat → Nat → Int32} {z : e_Z} {b : Nat} {x1 x2 y0 : Int32}  : e_L d 31 45 [.ref (b + 1), .int x1, .int x2] [.int y0] (mk I z) = (some (.inl (some (.int y0)), mk I z)) := e_L_to hd31 1 (by generalize e_L d 31 = K; generalize e_E d = E; rfl)
def hd32 : List Nat := [0, 6, 23, 38, 41, 53, 56, 60, 75, 78, 90, 93, 97, 100]
set_option maxRecDepth 20000 in
theorem B32_0 {d : Nat} {I : Nat → Nat → Int32} {z : e_Z} {b : Nat} {x1 x2 x3 : Int32}  : e_L d 32 0 [.ref (b + 1), .int x1, .int x2, .int x3, .null, .null] [] (mk I z) = (e_L d 32 6 [.ref (b + 1), .int x1, .int x2, .int x3, .int (e_n 0), .int (e_n 0)] [] (mk I z)) := e_L_to hd32 4 (by generalize e_L d 32 = K; generalize e_E d = E; rfl)
set_option maxRecDepth 20000 in
theorem B32_6 {d : Nat} {I : Nat → Nat → Int32} {z : e_Z} {b : Nat} {x1 x2 x3 x4 x5 : Int32} (hb : B2 b) : e_L d 32 6 [.ref (b + 1), .int x1, .int x2, .int x3, .int x4, .int x5] [] (mk I z) = (if e_cc .ge x5 (I (b + 1) 1) = true then (some (.inl (some (.int x4)), mk I z)) else (e_rI (e_E d 30 [.ref (b + 1), .int x5, .int x2, .int x3] (mk I z)) (fun v σ => e_L d 32 23 [.ref (b + 1), .int x1, .int x2, .int x3, .int x4, .int x5] [.int v] σ) (e_H (e_L d 32) 32 20 [.ref (b + 1), .int x1, .int x2, .int x3, .int x4, .int x5]))) := by
  rcases hb with rfl | rfl
  all_goals exact e_L_to hd32 9 (by generalize e_L d 32 = K; generalize e_E d = E; rfl)
set_option maxRecDepth 20000 in
theorem B32_23 {d : Nat} {I : Nat → Nat → Int32} {z : e_Z} {b : Nat} {x1 x2 x3 x4 x5 y0 : Int32} (hb : B2 b) : e_L d 32 23 [.ref (b + 1), .int x1, .int x2, .int x3, .int x4, .int x5] [.int y0] (mk I z) = (if e_cc .eq y0 0 = true then (e_L d 32 100 [.ref (b + 1), .int x1, .int x2, .int x3, .int x4, .int x5] [] (mk I z)) else (e_rI (e_E d 169 [.ref (b + 3), .int x5] (mk I z)) (fun v σ => e_L d 32 38 [.ref (b + 1), .int x1, .int x2, .int x3, .int x4, .int x5] [.int v, .int x1, .int x4] σ) (e_H (e_L d 32) 32 35 [.ref (b + 1), .int x1, .int x2, .int x3, .int x4, .int x5]))) := by
  rcases hb with rfl | rfl
  all_goals exact e_L_to hd32 7 (by generalize e_L d 32 = K; generalize e_E d = E; rfl)
set_option maxRecDepth 20000 in
theorem B32_38 {d : Nat} {I : Nat → Nat → Int32} {z : e_Z} {b : Nat} {x1 x2 x3 x4 x5 y0 y1 y2 : Int32}  : e_L d 32 38 [.ref (b + 1), .int x1, .int x2, .int x3, .int x4, .int x5] [.int y2, .int y1, .int y0] (mk I z) = (e_rI (e_E d 174 [.int y1, .int y2] (mk I z)) (fun v σ => e_L d 32 41 [.ref (b + 1), .int x1, .int x2, .int x3, .int x4, .int x5] [.int v, .int y0] σ) (e_H (e_L d 32) 32 38 [.ref (b + 1), .int x1, .int x2, .int x3, .int x4, .int x5])) := e_L_to hd32 1 (by generalize e_L d 32 = K; generalize e_E d = E; rfl)
set_option maxRecDepth 20000 in
theorem B32_41 {d : Nat} {I : Nat → Nat → Int32} {z : e_Z} {b : Nat} {x1 x2 x3 x4 x5 y0 y1 : Int32} (hb : B2 b) : e_L d 32 41 [.ref (b + 1), .int x1, .int x2, .int x3, .int x4, .int x5] [.int y1, .int y0] (mk I z) = (if e_cc .eq y1 0 = true then (e_L d 32 60 [.ref (b + 1), .int x1, .int x2, .int x3, .int x4, .int x5] [.int (e_n 0), .int y0] (mk I z)) else (e_rI (e_E d 169 [.ref (b + 4), .int x5] (mk I z)) (fun v σ => e_L d 32 53 [.ref (b + 1), .int x1, .int x2, .int x3, .int x4, .int x5] [.int v, .int y0] σ) (e_H (e_L d 32) 32 50 [.ref (b + 1), .int x1, .int x2, .int x3, .int x4, .int x5]))) := by
  rcases hb with rfl | rfl
  all_goals exact e_L_to hd32 5 (by generalize e_L d 32 = K; generalize e_E d = E; rfl)
set_option maxRecDepth 20000 in
theorem B32_53 {d : Nat} {I : Nat → Nat → Int32} {z : e_Z} {b : Nat} {x1 x2 x3 x4 x5 y0 y1 : Int32}  : e_L d 32 53 [.ref (b + 1), .int x1, .int x2, .int x3, .int x4, .int x5] [.int y1, .int y0] (mk I z) = (e_rI (e_E d 173 [.int y1] (mk I z)) (fun v σ => e_L d 32 56 [.ref (b + 1), .int x1, .int x2, .int x3, .int x4, .int x5] [.int v, .int y0] σ) (e_H (e_L d 32) 32 53 [.ref (b + 1), .int x1, .int x2, .int x3, .int x4, .int x5])) := e_L_to hd32 1 (by generalize e_L d 32 = K; generalize e_E d = E; rfl)
set_option maxRecDepth 20000 in
theorem B32_56 {d : Nat} {I : Nat → Nat → Int32} {z : e_Z} {b : Nat} {x1 x2 x3 x4 x5 y0 y1 : Int32}  : e_L d 32 56 [.ref (b + 1), .int x1, .int x2, .int x3, .int x4, .int x5] [.int y1, .int y0] (mk I z) = (e_L d 32 60 [.ref (b + 1), .int x1, .int x2, .int x3, .int x4, .int x5] [.int y1, .int y0] (mk I z)) := e_L_to hd32 1 (by generalize e_L d 32 = K; generalize e_E d = E; rfl)
set_option maxRecDepth 20000 in
theorem B32_60 {d : Nat} {I : Nat → Nat → Int32} {z : e_Z} {b : Nat} {x1 x2 x3 x4 x5 y0 y1 : Int32} (hb : B2 b) : e_L d 32 60 [.ref (b + 1), .int x1, .int x2, .int x3, .int x4, .int x5] [.int y1, .int y0] (mk I z) = (e_rI (e_E d 169 [.ref (b + 4), .int x5] (mk I z)) (fun v σ => e_L d 32 75 [.ref (b + 1), .int x1, .int x2, .int x3, .int (y0 ||| y1), .int x5] [.int v, .int x1, .int (y0 ||| y1)] σ) (e_H (e_L d 32) 32 72 [.ref (b + 1), .int x1, .int x2, .int x3, .int (y0 ||| y1), .int x5])) := by
  rcases hb with rfl | rfl
  all_goals exact e_L_to hd32 8 (by generalize e_L d 32 = K; generalize e_E d = E; rfl)
set_option maxRecDepth 20000 in
theorem B32_75 {d : Nat} {I : Nat → Nat → Int32} {z : e_Z} {b : Nat} {x1 x2 x3 x4 x5 y0 y1 y2 : Int32}  : e_L d 32 75 [.ref (b + 1), .int x1, .int x2, .int x3, .int x4, .int x5] [.int y2, .int y1, .int y0] (mk I z) = (e_rI (e_E d 174 [.int y1, .int y2] (mk I z)) (fun v σ => e_L d 32 78 [.ref (b + 1), .int x1, .int x2, .int x3, .int x4, .int x5] [.int v, .int y0] σ) (e_H (e_L d 32) 32 75 [.ref (b + 1), .int x1, .int x2, .int x3, .int x4, .int x5])) := e_L_to hd32 1 (by generalize e_L d 32 = K; generalize e_E d = E; rfl)
set_option maxRecDepth 20000 in
theorem B32_78 {d : Nat} {I : Nat → Nat → Int32} {z : e_Z} {b : Nat} {x1 x2 x3 x4 x5 y0 y1 : Int32} (hb : B2 b) : e_L d 32 78 [.ref (b + 1), .int x1, .int x2, .int x3, .int x4, .int x5] [.int y1, .int y0] (mk I z) = (if e_cc .eq y1 0 = true then (e_L d 32 97 [.ref (b + 1), .int x1, .int x2, .int x3, .int x4, .int x5] [.int (e_n 0), .int y0] (mk I z)) else (e_rI (e_E d 169 [.ref (b + 3), .int x5] (mk I z)) (fun v σ => e_L d 32 90 [.ref (b + 1), .int x1, .int x2, .int x3, .int x4, .int x5] [.int v, .int y0] σ) (e_H (e_L d 32) 32 87 [.ref (b + 1), .int x1, .int x2, .int x3, .int x4, .int x5]))) := by
  rcases hb with rfl | rfl
  all_goals exact e_L_to hd32 5 (by generalize e_L d 32 = K; generalize e_E d = E; rfl)
set_option maxRecDepth 20000 in
theorem B32_90 {d : Nat} {I : Nat → Nat → Int32} {z : e_Z} {b : Nat} {x1 x2 x3 x4 x5 y0 y1 : Int32}  : e_L d 32 90 [.ref (b + 1), .int x1, .int x2, .int x3, .int x4, .int x5] [.int y1, .int y0] (mk I z) = (e_rI (e_E d 173 [.int y1] (mk I z)) (fun v σ => e_L d 32 93 [.ref (b + 1), .int x1, .int x2, .int x3, .int x4, .int x5] [.int v, .int y0] σ) (e_H (e_L d 32) 32 90 [.ref (b + 1), .int x1, .int x2, .int x3, .int x4, .int x5])) := e_L_to hd32 1 (by generalize e_L d 32 = K; generalize e_E d = E; rfl)
set_option maxRecDepth 20000 in
theorem B32_93 {d : Nat} {I : Nat → Nat → Int32} {z : e_Z} {b : Nat} {x1 x2 x3 x4 x5 y0 y1 : Int32}  : e_L d 32 93 [.ref (b + 1), .int x1, .int x2, .int x3, .int x4, .int x5] [.int y1, .int y0] (mk I z) = (e_L d 32 97 [.ref (b + 1), .int x1, .int x2, .int x3, .int x4, .int x5] [.int y1, .int y0] (mk I z)) := e_L_to hd32 1 (by generalize e_L d 32 = K; generalize e_E d = E; rfl)
set_option maxRecDepth 20000 in
theorem B32_97 {d : Nat} {I : Nat → Nat → Int32} {z : e_Z} {b : Nat} {x1 x2 x3 x4 x5 y0 y1 : Int32}  : e_L d 32 97 [.ref (b + 1), .int x1, .int x2, .int x3, .int x4, .int x5] [.int y1, .int y0] (mk I z) = (e_L d 32 100 [.ref (b + 1), .int x1, .int x2, .int x3, .int (y0 ||| y1), .int x5] [] (mk I z)) := e_L_to hd32 2 (by generalize e_L d 32 = K; generalize e_E d = E; rfl)
set_option maxRecDepth 20000 in
theorem B32_100 {d : Nat} {I : Nat → Nat → Int32} {z : e_Z} {b : Nat} {x1 x2 x3 x4 x5 : Int32}  : e_L d 32 100 [.ref (b + 1), .int x1, .int x2, .int x3, .int x4, .int x5] [] (mk I z) = (e_L d 32 6 [.ref (b + 1), .int x1, .int x2, .int x3, .int x4, .int (x5 + e_n 1)] [] (mk I z)) := e_L_to hd32 2 (by generalize e_L d 32 = K; generalize e_E d = E; rfl)
def hd33 : List Nat := [0, 5, 18, 28, 42]
set_option maxRecDepth 20000 in
theorem B33_0 {d : Nat} {I : Nat → Nat → Int32} {z : e_Z} {b : Nat} {x1 x2 x3 : Int32} (hb : B2 b) : e_L d 33 0 [.ref (b + 1), .int x1, .int x2, .int x3] [] (mk I z) = (e_rI (e_E d 28 [.ref (b + 1), .int x1] (mk I z)) (fun v σ => e_L d 33 5 [.ref (b + 1), .int x1, .int x2, .int x3] [.int v] σ) (e_H (e_L d 33) 33 2 [.ref (b + 1), .int x1, .int x2, .int x3])) := by
  rcases hb with rfl | rfl
  all_goals exact e_L_to hd33 3 (by generalize e_L d 33 = K; generalize e_E d = E; rfl)
set_option maxRecDepth 20000 in
theorem B33_5 {d : Nat} {I : Nat → Nat → Int32} {z : e_Z} {b : Nat} {x1 x2 x3 y0 : Int32} (hb : B2 b) : e_L d 33 5 [.ref (b + 1), .int x1, .int x2, .int x3] [.int y0] (mk I z) = (if e_cc .ne y0 0 = true then (e_L d 33 18 [.ref (b + 1), .int x1, .int x2, .int x3] [] (mk I z)) else (if e_cc .eq x2 (e_n (-1)) = true then (e_L d 33 18 [.ref (b + 1), .int x1, .int x2, .int x3] [] (mk I z)) else (if e_cc .le x2 x3 = true then (e_rI (e_E d 169 [.ref (b + 2), .int x1] (mk I z)) (fun v σ => e_L d 33 28 [.ref (b + 1), .int x1, .int x2, .int x3] [.int v] σ) (e_H (e_L d 33) 33 25 [.ref (b + 1), .int x1, .int x2, .int x3])) else (e_L d 33 18 [.ref (b + 1), .int x1, .int x2, .int x3] [] (mk I z))))) := by
  rcases hb with rfl | rfl
  all_goals exact e_L_to hd33 11 (by generalize e_L d 33 = K; generalize e_E d = E; rfl)
set_option maxRecDepth 20000 in
theorem B33_18 {d : Nat} {I : Nat → Nat → Int32} {z : e_Z} {b : Nat} {x1 x2 x3 : Int32}  : e_L d 33 18 [.ref (b + 1), .int x1, .int x2, .int x3] [] (mk I z) = (if e_n 0 = 0 ∨ e_n 0 = 1 then some (.inl (some (.int (e_n 0))), mk I z) else none) := e_L_to hd33 2 (by generalize e_L d 33 = K; generalize e_E d = E; rfl)
set_option maxRecDepth 20000 in
theorem B33_28 {d : Nat} {I : Nat → Nat → Int32} {z : e_Z} {b : Nat} {x1 x2 x3 y0 : Int32}  : e_L d 33 28 [.ref (b + 1), .int x1, .int x2, .int x3] [.int y0] (mk I z) = (if e_cc .lt ((y0 + x3) - x2) (e_n 10) = true then (e_L d 33 42 [.ref (b + 1), .int x1, .int x2, .int x3] [.int (e_n 0)] (mk I z)) else (e_L d 33 42 [.ref (b + 1), .int x1, .int x2, .int x3] [.int (e_n 1)] (mk I z))) := e_L_to hd33 8 (by generalize e_L d 33 = K; generalize e_E d = E; rfl)
set_option maxRecDepth 20000 in
theorem B33_42 {d : Nat} {I : Nat → Nat → Int32} {z : e_Z} {b : Nat} {x1 x2 x3 y0 : Int32}  : e_L d 33 42 [.ref (b + 1), .int x1, .int x2, .int x3] [.int y0] (mk I z) = (if y0 = 0 ∨ y0 = 1 then some (.inl (some (.int y0)), mk I z) else none) := e_L_to hd33 1 (by generalize e_L d 33 = K; generalize e_E d = E; rfl)
def hd34 : List Nat := [0, 15, 21, 26, 45, 68]
set_option maxRecDepth 20000 in
theorem B34_0 {d : Nat} {I : Nat → Nat → Int32} {z : e_Z} {b : Nat} {x1 x2 x3 x4 : Int32} (hb : B2 b) : e_L d 34 0 [.ref (b + 1), .int x1, .int x2, .int x3, .int x4, .null, .null, .null, .null] [] (mk I z) = (e_rI (e_E d 29 [.ref (b + 1)] (mk I z)) (fun v σ => e_L d 34 15 [.ref (b + 1), .int x1, .int x2, .int x3, .int x4, .int (e_min (x2 + (e_n 30)) (e_n 60)), .null, .null, .null] [.int v] σ) (e_H (e_L d 34) 34 12 [.ref (b + 1), .int x1, .int x2, .int x3, .int x4, .int (e_min (x2 + (e_n 30)) (e_n 60)), .null, .null, .null])) := by
  rcases hb with rfl | rfl
  all_goals exact e_L_to hd34 8 (by generalize e_L d 34 = K; generalize e_E d = E; rfl)
set_option maxRecDepth 20000 in
theorem B34_15 {d : Nat} {I : Nat → Nat → Int32} {z : e_Z} {b : Nat} {x1 x2 x3 x4 x5 y0 : Int32}  : e_L d 34 15 [.ref (b + 1), .int x1, .int x2, .int x3, .int x4, .int x5, .null, .null, .null] [.int y0] (mk I z) = (e_rI (e_E d 173 [.int x1] (mk I z)) (fun v σ => e_L d 34 21 [.ref (b + 1), .int x1, .int x2, .int x3, .int x4, .int x5, .int y0, .null, .null] [.int v] σ) (e_H (e_L d 34) 34 18 [.ref (b + 1), .int x1, .int x2, .int x3, .int x4, .int x5, .int y0, .null, .null])) := e_L_to hd34 3 (by generalize e_L d 34 = K; generalize e_E d = E; rfl)
set_option maxRecDepth 20000 in
theorem B34_21 {d : Nat} {I : Nat → Nat → Int32} {z : e_Z} {b : Nat} {x1 x2 x3 x4 x5 x6 y0 : Int32}  : e_L d 34 21 [.ref (b + 1), .int x1, .int x2, .int x3, .int x4, .int x5, .int x6, .null, .null] [.int y0] (mk I z) = (e_L d 34 26 [.ref (b + 1), .int x1, .int x2, .int x3, .int x4, .int x5, .int x6, .int y0, .int x2] [] (mk I z)) := e_L_to hd34 3 (by generalize e_L d 34 = K; generalize e_E d = E; rfl)
set_option maxRecDepth 20000 in
theorem B34_26 {d : Nat} {I : Nat → Nat → Int32} {z : e_Z} {b : Nat} {x1 x2 x3 x4 x5 x6 x7 x8 : Int32} (hb : B2 b) : e_L d 34 26 [.ref (b + 1), .int x1, .int x2, .int x3, .int x4, .int x5, .int x6, .int x7, .int x8] [] (mk I z) = (if e_cc .gt x8 x5 = true then (some (.inl (some (.int (e_n (-1)))), mk I z)) else (e_rI (e_E d 32 [.ref (b + 1), .int x7, .int x8, .int x4] (mk I z)) (fun v σ => e_L d 34 45 [.ref (b + 1), .int x1, .int x2, .int x3, .int x4, .int x5, .int x6, .int x7, .int x8] [.int v, .int x7] σ) (e_H (e_L d 34) 34 42 [.ref (b + 1), .int x1, .int x2, .int x3, .int x4, .int x5, .int x6, .int x7, .int x8]))) := by
  rcases hb with rfl | rfl
  all_goals exact e_L_to hd34 9 (by generalize e_L d 34 = K; generalize e_E d = E; rfl)
set_option maxRecDepth 20000 in
theorem B34_45 {d : Nat} {I : Nat → Nat → Int32} {z : e_Z} {b : Nat} {x1 x2 x3 x4 x5 x6 x7 x8 y0 y1 : Int32} (hb : B2 b) : e_L d 34 45 [.ref (b + 1), .int x1, .int x2, .int x3, .int x4, .int x5, .int x6, .int x7, .int x8] [.int y1, .int y0] (mk I z) = (if e_cc .eq ((y0 ||| y1) &&& x6) 0 = true then (e_rI (e_E d 35 [.ref (b + 1), .int (y0 ||| y1), .int x3, .int x8] (mk I z)) (fun v σ => e_L d 34 68 [.ref (b + 1), .int x1, .int x2, .int x3, .int x4, .int x5, .int x6, .int (y0 ||| y1), .int x8] [.int v] σ) (e_H (e_L d 34) 34 65 [.ref (b + 1), .int x1, .int x2, .int x3, .int x4, .int x5, .int x6, .int (y0 ||| y1), .int x8])) else (some (.inl (some (.int x8)), mk I z))) := by
  rcases hb with rfl | rfl
  all_goals exact e_L_to hd34 11 (by generalize e_L d 34 = K; generalize e_E d = E; rfl)
set_option maxRecDepth 20000 in
theorem B34_68 {d : Nat} {I : Nat → Nat → Int32} {z : e_Z} {b : Nat} {x1 x2 x3 x4 x5 x6 x7 x8 y0 : Int32}  : e_L d 34 68 [.ref (b + 1), .int x1, .int x2, .int x3, .int x4, .int x5, .int x6, .int x7, .int x8] [.int y0] (mk I z) = (e_L d 34 26 [.ref (b + 1), .int x1, .int x2, .int x3, .int x4, .int x5, .int x6, .int y0, .int (x8 + e_n 1)] [] (mk I z)) := e_L_to hd34 3 (by generalize e_L d 34 = K; generalize e_E d = E; rfl)
def hd35 : List Nat := [0, 6, 23, 33, 38]
set_option maxRecDepth 20000 in
theorem B35_0 {d : Nat} {I : Nat → Nat → Int32} {z : e_Z} {b : Nat} {x1 x2 x3 : Int32}  : e_L d 35 0 [.ref (b + 1), .int x1, .int x2, .int x3, .null, .null] [] (mk I z) = (e_L d 35 6 [.ref (b + 1), .int x1, .int x2, .int x3, .int x1, .int (e_n 0)] [] (mk I z)) := e_L_to hd35 4 (by generalize e_L d 35 = K; generalize e_E d = E; rfl)
set_option maxRecDepth 20000 in
theorem B35_6 {d : Nat} {I : Nat → Nat → Int32} {z : e_Z} {b : Nat} {x1 x2 x3 x4 x5 : Int32} (hb : B2 b) : e_L d 35 6 [.ref (b + 1), .int x1, .int x2, .int x3, .int x4, .int x5] [] (mk I z) = (if e_cc .ge x5 (I (b + 1) 0) = true then (some (.inl (some (.int x4)), mk I z)) else (e_rI (e_E d 33 [.ref (b + 1), .int x5, .int x2, .int x3] (mk I z)) (fun v σ => e_L d 35 23 [.ref (b + 1), .int x1, .int x2, .int x3, .int x4, .int x5] [.int v] σ) (e_H (e_L d 35) 35 20 [.ref (b + 1), .int x1, .int x2, .int x3, .int x4, .int x5]))) := by
  rcases hb with rfl | rfl
  all_goals exact e_L_to hd35 9 (by generalize e_L d 35 = K; generalize e_E d = E; rfl)
set_option maxRecDepth 20000 in
theorem B35_23 {d : Nat} {I : Nat → Nat → Int32} {z : e_Z} {b : Nat} {x1 x2 x3 x4 x5 y0 : Int32}  : e_L d 35 23 [.ref (b + 1), .int x1, .int x2, .int x3, .int x4, .int x5] [.int y0] (mk I z) = (if e_cc .eq y0 0 = true then (e_L d 35 38 [.ref (b + 1), .int x1, .int x2, .int x3, .int x4, .int x5] [] (mk I z)) else (e_rI (e_E d 173 [.int x5] (mk I z)) (fun v σ => e_L d 35 33 [.ref (b + 1), .int x1, .int x2, .int x3, .int x4, .int x5] [.int v, .int x4] σ) (e_H (e_L d 35) 35 30 [.ref (b + 1), .int x1, .int x2, .int x3, .int x4, .int x5]))) := e_L_to hd35 4 (by generalize e_L d 35 = K; generalize e_E d = E; rfl)
set_option maxRecDepth 20000 in
theorem B35_33 {d : Nat} {I : Nat → Nat → Int32} {z : e_Z} {b : Nat} {x1 x2 x3 x4 x5 y0 y1 : Int32}  : e_L d 35 33 [.ref (b + 1), .int x1, .int x2, .int x3, .int x4, .int x5] [.int y1, .int y0] (mk I z) = (e_L d 35 38 [.ref (b + 1), .int x1, .int x2, .int x3, .int (y0 &&& (y1 ^^^ (e_n (-1)))), .int x5] [] (mk I z)) := e_L_to hd35 4 (by generalize e_L d 35 = K; generalize e_E d = E; rfl)
set_option maxRecDepth 20000 in
theorem B35_38 {d : Nat} {I : Nat → Nat → Int32} {z : e_Z} {b : Nat} {x1 x2 x3 x4 x5 : Int32}  : e_L d 35 38 [.ref (b + 1), .int x1, .int x2, .int x3, .int x4, .int x5] [] (mk I z) = (e_L d 35 6 [.ref (b + 1), .int x1, .int x2, .int x3, .int x4, .int (x5 + e_n 1)] [] (mk I z)) := e_L_to hd35 2 (by generalize e_L d 35 = K; generalize e_E d = E; rfl)
def hd36 : List Nat := [0, 8, 15, 24, 48, 58, 62, 71, 94, 97, 117]
set_option maxRecDepth 20000 in
theorem B36_0 {d : Nat} {I : Nat → Nat → Int32} {z : e_Z} {b : Nat} {x1 x2 x3 x4 : Int32} (hb : B2 b) : e_L d 36 0 [.ref (b + 1), .int x1, .int x2, .int x3, .int x4, .null, .null] [] (mk I z) = (e_rV (e_E d 172 [.ref (b + 6), .int (e_n 1)] (mk I z)) (fun σ => e_L d 36 8 [.ref (b + 1), .int x1, .int x2, .int x3, .int x4, .null, .null] [] σ) (e_H (e_L d 36) 36 5 [.ref (b + 1), .int x1, .int x2, .int x3, .int x4, .null, .null])) := by
  rcases hb with rfl | rfl
  all_goals exact e_L_to hd36 4 (by generalize e_L d 36 = K; generalize e_E d = E; rfl)
set_option maxRecDepth 20000 in
theorem B36_8 {d : Nat} {I : Nat → Nat → Int32} {z : e_Z} {b : Nat} {x1 x2 x3 x4 : Int32}  : e_L d 36 8 [.ref (b + 1), .int x1, .int x2, .int x3, .int x4, .null, .null] [] (mk I z) = (e_L d 36 15 [.ref (b + 1), .int x1, .int x2, .int x3, .int x4, .int ((x2 + x3) - (e_n 1)), .null] [] (mk I z)) := e_L_to hd36 6 (by generalize e_L d 36 = K; generalize e_E d = E; rfl)
set_option maxRecDepth 20000 in
theorem B36_15 {d : Nat} {I : Nat → Nat → Int32} {z : e_Z} {b : Nat} {x1 x2 x3 x4 x5 : Int32} {u6 : Value} (hb : B2 b) : e_L d 36 15 [.ref (b + 1), .int x1, .int x2, .int x3, .int x4, .int x5, u6] [] (mk I z) = (if e_cc .lt x5 x2 = true then (e_rI (e_E d 169 [.ref (b + 6), .int x1] (mk I z)) (fun v σ => e_L d 36 117 [.ref (b + 1), .int x1, .int x2, .int x3, .int x4, .int x5, u6] [.int v] σ) (e_H (e_L d 36) 36 114 [.ref (b + 1), .int x1, .int x2, .int x3, .int x4, .int x5, u6])) else (e_L d 36 24 [.ref (b + 1), .int x1, .int x2, .int x3, .int x4, .int x5, .int (e_n 0)] [] (mk I z))) := by
  rcases hb with rfl | rfl
  all_goals exact e_L_to hd36 7 (by generalize e_L d 36 = K; generalize e_E d = E; rfl)
set_option maxRecDepth 20000 in
theorem B36_24 {d : Nat} {I : Nat → Nat → Int32} {z : e_Z} {b : Nat} {x1 x2 x3 x4 x5 x6 : Int32} (hb : B2 b) : e_L d 36 24 [.ref (b + 1), .int x1, .int x2, .int x3, .int x4, .int x5, .int x6] [] (mk I z) = (if e_cc .ge x6 (I (b + 1) 0) = true then (e_L d 36 71 [.ref (b + 1), .int x1, .int x2, .int x3, .int x4, .int x5, .int (e_n 0)] [] (mk I z)) else (e_rI (e_E d 169 [.ref (b + 6), .int x6] (mk I z)) (fun v σ => e_L d 36 48 [.ref (b + 1), .int x1, .int x2, .int x3, .int x4, .int x5, .int x6] [.int v, .int x6, .ref (b + 7)] σ) (e_H (e_L d 36) 36 45 [.ref (b + 1), .int x1, .int x2, .int x3, .int x4, .int x5, .int x6]))) := by
  rcases hb with rfl | rfl
  all_goals exact e_L_to hd36 11 (by generalize e_L d 36 = K; generalize e_E d = E; rfl)
set_option maxRecDepth 20000 in
theorem B36_48 {d : Nat} {I : Nat → Nat → Int32} {z : e_Z} {b : Nat} {x1 x2 x3 x4 x5 x6 y1 y2 : Int32} (hb : B2 b) : e_L d 36 48 [.ref (b + 1), .int x1, .int x2, .int x3, .int x4, .int x5, .int x6] [.int y2, .int y1, .ref (b + 7)] (mk I z) = (e_rI (e_E d 37 [.ref (b + 1), .int x6, .int x4, .int x5] (mk I z)) (fun v σ => e_L d 36 58 [.ref (b + 1), .int x1, .int x2, .int x3, .int x4, .int x5, .int x6] [.int v, .int y2, .int y1, .ref (b + 7)] σ) (e_H (e_L d 36) 36 55 [.ref (b + 1), .int x1, .int x2, .int x3, .int x4, .int x5, .int x6])) := by
  rcases hb with rfl | rfl
  all_goals exact e_L_to hd36 5 (by generalize e_L d 36 = K; generalize e_E d = E; rfl)
set_option maxRecDepth 20000 in
theorem B36_58 {d : Nat} {I : Nat → Nat → Int32} {z : e_Z} {b : Nat} {x1 x2 x3 x4 x5 x6 y1 y2 y3 : Int32}  : e_L d 36 58 [.ref (b + 1), .int x1, .int x2, .int x3, .int x4, .int x5, .int x6] [.int y3, .int y2, .int y1, .ref (b + 7)] (mk I z) = (e_rV (e_E d 170 [.ref (b + 7), .int y1, .int (y2 * y3)] (mk I z)) (fun σ => e_L d 36 62 [.ref (b + 1), .int x1, .int x2, .int x3, .int x4, .int x5, .int x6] [] σ) (e_H (e_L d 36) 36 59 [.ref (b + 1), .int x1, .int x2, .int x3, .int x4, .int x5, .int x6])) := e_L_to hd36 2 (by generalize e_L d 36 = K; generalize e_E d = E; rfl)
set_option maxRecDepth 20000 in
theorem B36_62 {d : Nat} {I : Nat → Nat → Int32} {z : e_Z} {b : Nat} {x1 x2 x3 x4 x5 x6 : Int32}  : e_L d 36 62 [.ref (b + 1), .int x1, .int x2, .int x3, .int x4, .int x5, .int x6] [] (mk I z) = (e_L d 36 24 [.ref (b + 1), .int x1, .int x2, .int x3, .int x4, .int x5, .int (x6 + e_n 1)] [] (mk I z)) := e_L_to hd36 2 (by generalize e_L d 36 = K; generalize e_E d = E; rfl)
set_option maxRecDepth 20000 in
theorem B36_71 {d : Nat} {I : Nat → Nat → Int32} {z : e_Z} {b : Nat} {x1 x2 x3 x4 x5 x6 : Int32} (hb : B2 b) : e_L d 36 71 [.ref (b + 1), .int x1, .int x2, .int x3, .int x4, .int x5, .int x6] [] (mk I z) = (if e_cc .ge x6 (I (b + 1) 0) = true then (e_L d 36 15 [.ref (b + 1), .int x1, .int x2, .int x3, .int x4, .int (x5 + e_n (-1)), .int x6] [] (mk I z)) else (e_rI (e_E d 38 [.ref (b + 1), .int x6, .int x5] (mk I z)) (fun v σ => e_L d 36 94 [.ref (b + 1), .int x1, .int x2, .int x3, .int x4, .int x5, .int x6] [.int v, .int x6, .ref (b + 6)] σ) (e_H (e_L d 36) 36 91 [.ref (b + 1), .int x1, .int x2, .int x3, .int x4, .int x5, .int x6]))) := by
  rcases hb with rfl | rfl
  all_goals exact e_L_to hd36 11 (by generalize e_L d 36 = K; generalize e_E d = E; rfl)
set_option maxRecDepth 20000 in
theorem B36_94 {d : Nat} {I : Nat → Nat → Int32} {z : e_Z} {b : Nat} {x1 x2 x3 x4 x5 x6 y1 y2 : Int32}  : e_L d 36 94 [.ref (b + 1), .int x1, .int x2, .int x3, .int x4, .int x5, .int x6] [.int y2, .int y1, .ref (b + 6)] (mk I z) = (e_rV (e_E d 170 [.ref (b + 6), .int y1, .int y2] (mk I z)) (fun σ => e_L d 36 97 [.ref (b + 1), .int x1, .int x2, .int x3, .int x4, .int x5, .int x6] [] σ) (e_H (e_L d 36) 36 94 [.ref (b + 1), .int x1, .int x2, .int x3, .int x4, .int x5, .int x6])) := e_L_to hd36 1 (by generalize e_L d 36 = K; generalize e_E d = E; rfl)
set_option maxRecDepth 20000 in
theorem B36_97 {d : Nat} {I : Nat → Nat → Int32} {z : e_Z} {b : Nat} {x1 x2 x3 x4 x5 x6 : Int32}  : e_L d 36 97 [.ref (b + 1), .int x1, .int x2, .int x3, .int x4, .int x5, .int x6] [] (mk I z) = (e_L d 36 71 [.ref (b + 1), .int x1, .int x2, .int x3, .int x4, .int x5, .int (x6 + e_n 1)] [] (mk I z)) := e_L_to hd36 2 (by generalize e_L d 36 = K; generalize e_E d = E; rfl)
set_option maxRecDepth 20000 in
theorem B36_117 {d : Nat} {I : Nat → Nat → Int32} {z : e_Z} {b : Nat} {x1 x2 x3 x4 x5 y0 : Int32} {u6 : Value}  : e_L d 36 117 [.ref (b + 1), .int x1, .int x2, .int x3, .int x4, .int x5, u6] [.int y0] (mk I z) = (some (.inl (some (.int y0)), mk I z)) := e_L_to hd36 1 (by generalize e_L d 36 = K; generalize e_E d = E; rfl)
def hd37 : List Nat := [0, 5, 18, 31]
set_option maxRecDepth 20000 in
theorem B37_0 {d : Nat} {I : Nat → Nat → Int32} {z : e_Z} {b : Nat} {x1 x2 x3 : Int32} (hb : B2 b) : e_L d 37 0 [.ref (b + 1), .int x1, .int x2, .int x3] [] (mk I z) = (e_rI (e_E d 28 [.ref (b + 1), .int x1] (mk I z)) (fun v σ => e_L d 37 5 [.ref (b + 1), .int x1, .int x2, .int x3] [.int v] σ) (e_H (e_L d 37) 37 2 [.ref (b + 1), .int x1, .int x2, .int x3])) := by
  rcases hb with rfl | rfl
  all_goals exact e_L_to hd37 3 (by generalize e_L d 37 = K; generalize e_E d = E; rfl)
set_option maxRecDepth 20000 in
theorem B37_5 {d : Nat} {I : Nat → Nat → Int32} {z : e_Z} {b : Nat} {x1 x2 x3 y0 : Int32} (hb : B2 b) : e_L d 37 5 [.ref (b + 1), .int x1, .int x2, .int x3] [.int y0] (mk I z) = (if e_cc .ne y0 0 = true then (e_L d 37 18 [.ref (b + 1), .int x1, .int x2, .int x3] [] (mk I z)) else (if e_cc .eq x2 (e_n (-1)) = true then (e_L d 37 18 [.ref (b + 1), .int x1, .int x2, .int x3] [] (mk I z)) else (if e_cc .le x2 x3 = true then (e_rI (e_E d 169 [.ref (b + 2), .int x1] (mk I z)) (fun v σ => e_L d 37 31 [.ref (b + 1), .int x1, .int x2, .int x3] [.int v, .int (e_n 10)] σ) (e_H (e_L d 37) 37 28 [.ref (b + 1), .int x1, .int x2, .int x3])) else (e_L d 37 18 [.ref (b + 1), .int x1, .int x2, .int x3] [] (mk I z))))) := by
  rcases hb with rfl | rfl
  all_goals exact e_L_to hd37 12 (by generalize e_L d 37 = K; generalize e_E d = E; rfl)
set_option maxRecDepth 20000 in
theorem B37_18 {d : Nat} {I : Nat → Nat → Int32} {z : e_Z} {b : Nat} {x1 x2 x3 : Int32}  : e_L d 37 18 [.ref (b + 1), .int x1, .int x2, .int x3] [] (mk I z) = (some (.inl (some (.int (e_n 10))), mk I z)) := e_L_to hd37 2 (by generalize e_L d 37 = K; generalize e_E d = E; rfl)
set_option maxRecDepth 20000 in
theorem B37_31 {d : Nat} {I : Nat → Nat → Int32} {z : e_Z} {b : Nat} {x1 x2 x3 y0 y1 : Int32}  : e_L d 37 31 [.ref (b + 1), .int x1, .int x2, .int x3] [.int y1, .int y0] (mk I z) = (some (.inl (some (.int (y0 - y1))), mk I z)) := e_L_to hd37 2 (by generalize e_L d 37 = K; generalize e_E d = E; rfl)
def hd38 : List Nat := [0, 8, 14, 24, 29, 34, 50, 63, 67]
set_option maxRecDepth 20000 in
theorem B38_0 {d : Nat} {I : Nat → Nat → Int32} {z : e_Z} {b : Nat} {x1 x2 : Int32} (hb : B2 b) : e_L d 38 0 [.ref (b + 1), .int x1, .int x2, .null, .null, .null] [] (mk I z) = (e_rI (e_E d 169 [.ref (b + 7), .int x1] (mk I z)) (fun v σ => e_L d 38 8 [.ref (b + 1), .int x1, .int x2, .null, .null, .null] [.int v] σ) (e_H (e_L d 38) 38 5 [.ref (b + 1), .int x1, .int x2, .null, .null, .null])) := by
  rcases hb with rfl | rfl
  all_goals exact e_L_to hd38 4 (by generalize e_L d 38 = K; generalize e_E d = E; rfl)
set_option maxRecDepth 20000 in
theorem B38_8 {d : Nat} {I : Nat → Nat → Int32} {z : e_Z} {b : Nat} {x1 x2 y0 : Int32} (hb : B2 b) : e_L d 38 8 [.ref (b + 1), .int x1, .int x2, .null, .null, .null] [.int y0] (mk I z) = (e_rI (e_E d 28 [.ref (b + 1), .int x1] (mk I z)) (fun v σ => e_L d 38 14 [.ref (b + 1), .int x1, .int x2, .int y0, .null, .null] [.int v] σ) (e_H (e_L d 38) 38 11 [.ref (b + 1), .int x1, .int x2, .int y0, .null, .null])) := by
  rcases hb with rfl | rfl
  all_goals exact e_L_to hd38 4 (by generalize e_L d 38 = K; generalize e_E d = E; rfl)
set_option maxRecDepth 20000 in
theorem B38_14 {d : Nat} {I : Nat → Nat → Int32} {z : e_Z} {b : Nat} {x1 x2 x3 y0 : Int32}  : e_L d 38 14 [.ref (b + 1), .int x1, .int x2, .int x3, .null, .null] [.int y0] (mk I z) = (if e_cc .eq y0 0 = true then (e_rI (e_E d 173 [.int x1] (mk I z)) (fun v σ => e_L d 38 24 [.ref (b + 1), .int x1, .int x2, .int x3, .null, .null] [.int v, .ref (b + 1)] σ) (e_H (e_L d 38) 38 21 [.ref (b + 1), .int x1, .int x2, .int x3, .null, .null])) else (some (.inl (some (.int x3)), mk I z))) := e_L_to hd38 4 (by generalize e_L d 38 = K; generalize e_E d = E; rfl)
set_option maxRecDepth 20000 in
theorem B38_24 {d : Nat} {I : Nat → Nat → Int32} {z : e_Z} {b : Nat} {x1 x2 x3 y1 : Int32} (hb : B2 b) : e_L d 38 24 [.ref (b + 1), .int x1, .int x2, .int x3, .null, .null] [.int y1, .ref (b + 1)] (mk I z) = (e_rI (e_E d 32 [.ref (b + 1), .int y1, .int x2, .int (e_n (-1))] (mk I z)) (fun v σ => e_L d 38 29 [.ref (b + 1), .int x1, .int x2, .int x3, .null, .null] [.int v] σ) (e_H (e_L d 38) 38 26 [.ref (b + 1), .int x1, .int x2, .int x3, .null, .null])) := by
  rcases hb with rfl | rfl
  all_goals exact e_L_to hd38 3 (by generalize e_L d 38 = K; generalize e_E d = E; rfl)
set_option maxRecDepth 20000 in
theorem B38_29 {d : Nat} {I : Nat → Nat → Int32} {z : e_Z} {b : Nat} {x1 x2 x3 y0 : Int32}  : e_L d 38 29 [.ref (b + 1), .int x1, .int x2, .int x3, .null, .null] [.int y0] (mk I z) = (e_L d 38 34 [.ref (b + 1), .int x1, .int x2, .int x3, .int y0, .int (e_n 0)] [] (mk I z)) := e_L_to hd38 3 (by generalize e_L d 38 = K; generalize e_E d = E; rfl)
set_option maxRecDepth 20000 in
theorem B38_34 {d : Nat} {I : Nat → Nat → Int32} {z : e_Z} {b : Nat} {x1 x2 x3 x4 x5 : Int32} (hb : B2 b) : e_L d 38 34 [.ref (b + 1), .int x1, .int x2, .int x3, .int x4, .int x5] [] (mk I z) = (if e_cc .ge x5 (I (b + 1) 0) = true then (some (.inl (some (.int x3)), mk I z)) else (e_rI (e_E d 174 [.int x4, .int x5] (mk I z)) (fun v σ => e_L d 38 50 [.ref (b + 1), .int x1, .int x2, .int x3, .int x4, .int x5] [.int v] σ) (e_H (e_L d 38) 38 47 [.ref (b + 1), .int x1, .int x2, .int x3, .int x4, .int x5]))) := by
  rcases hb with rfl | rfl
  all_goals exact e_L_to hd38 7 (by generalize e_L d 38 = K; generalize e_E d = E; rfl)
set_option maxRecDepth 20000 in
theorem B38_50 {d : Nat} {I : Nat → Nat → Int32} {z : e_Z} {b : Nat} {x1 x2 x3 x4 x5 y0 : Int32} (hb : B2 b) : e_L d 38 50 [.ref (b + 1), .int x1, .int x2, .int x3, .int x4, .int x5] [.int y0] (mk I z) = (if e_cc .eq y0 0 = true then (e_L d 38 67 [.ref (b + 1), .int x1, .int x2, .int x3, .int x4, .int x5] [] (mk I z)) else (e_rI (e_E d 169 [.ref (b + 7), .int x5] (mk I z)) (fun v σ => e_L d 38 63 [.ref (b + 1), .int x1, .int x2, .int x3, .int x4, .int x5] [.int v, .int x3] σ) (e_H (e_L d 38) 38 60 [.ref (b + 1), .int x1, .int x2, .int x3, .int x4, .int x5]))) := by
  rcases hb with rfl | rfl
  all_goals exact e_L_to hd38 6 (by generalize e_L d 38 = K; generalize e_E d = E; rfl)
set_option maxRecDepth 20000 in
theorem B38_63 {d : Nat} {I : Nat → Nat → Int32} {z : e_Z} {b : Nat} {x1 x2 x3 x4 x5 y0 y1 : Int32}  : e_L d 38 63 [.ref (b + 1), .int x1, .int x2, .int x3, .int x4, .int x5] [.int y1, .int y0] (mk I z) = (e_L d 38 67 [.ref (b + 1), .int x1, .int x2, .int (e_max y0 y1), .int x4, .int x5] [] (mk I z)) := e_L_to hd38 2 (by generalize e_L d 38 = K; generalize e_E d = E; rfl)
set_option maxRecDepth 20000 in
theorem B38_67 {d : Nat} {I : Nat → Nat → Int32} {z : e_Z} {b : Nat} {x1 x2 x3 x4 x5 : Int32}  : e_L d 38 67 [.ref (b + 1), .int x1, .int x2, .int x3, .int x4, .int x5] [] (mk I z) = (e_L d 38 34 [.ref (b + 1), .int x1, .int x2, .int x3, .int x4, .int (x5 + e_n 1)] [] (mk I z)) := e_L_to hd38 2 (by generalize e_L d 38 = K; generalize e_E d = E; rfl)
def hd39 : List Nat := [0, 4, 11, 16, 35, 55, 67, 79, 88, 95]
set_option maxRecDepth 20000 in
theorem B39_0 {d : Nat} {I : Nat → Nat → Int32} {z : e_Z} {b : Nat} {x1 x2 : Int32} (hb : B2 b) : e_L d 39 0 [.ref (b + 1), .int x1, .int x2, .null, .null, .null, .null] [] (mk I z) = (e_rI (e_E d 29 [.ref (b + 1)] (mk I z)) (fun v σ => e_L d 39 4 [.ref (b + 1), .int x1, .int x2, .null, .null, .null, .null] [.int v] σ) (e_H (e_L d 39) 39 1 [.ref (b + 1), .int x1, .int x2, .null, .null, .null, .null])) := by
  rcases hb with rfl | rfl
  all_goals exact e_L_to hd39 2 (by generalize e_L d 39 = K; generalize e_E d = E; rfl)
set_option maxRecDepth 20000 in
theorem B39_4 {d : Nat} {I : Nat → Nat → Int32} {z : e_Z} {b : Nat} {x1 x2 y0 : Int32}  : e_L d 39 4 [.ref (b + 1), .int x1, .int x2, .null, .null, .null, .null] [.int y0] (mk I z) = (e_rI (e_E d 173 [.int x1] (mk I z)) (fun v σ => e_L d 39 11 [.ref (b + 1), .int x1, .int x2, .int (y0 ^^^ (e_n (-1))), .null, .null, .null] [.int v] σ) (e_H (e_L d 39) 39 8 [.ref (b + 1), .int x1, .int x2, .int (y0 ^^^ (e_n (-1))), .null, .null, .null])) := e_L_to hd39 5 (by generalize e_L d 39 = K; generalize e_E d = E; rfl)
set_option maxRecDepth 20000 in
theorem B39_11 {d : Nat} {I : Nat → Nat → Int32} {z : e_Z} {b : Nat} {x1 x2 x3 y0 : Int32}  : e_L d 39 11 [.ref (b + 1), .int x1, .int x2, .int x3, .null, .null, .null] [.int y0] (mk I z) = (e_L d 39 16 [.ref (b + 1), .int x1, .int x2, .int x3, .int y0, .int (e_n 0), .null] [] (mk I z)) := e_L_to hd39 3 (by generalize e_L d 39 = K; generalize e_E d = E; rfl)
set_option maxRecDepth 20000 in
theorem B39_16 {d : Nat} {I : Nat → Nat → Int32} {z : e_Z} {b : Nat} {x1 x2 x3 x4 x5 : Int32} (hb : B2 b) : e_L d 39 16 [.ref (b + 1), .int x1, .int x2, .int x3, .int x4, .int x5, .null] [] (mk I z) = (if e_cc .ge x5 (e_n 8) = true then (e_L d 39 55 [.ref (b + 1), .int x1, .int x2, .int x3, .int x4, .int x1, .int ((I (b + 1) 0) - (e_n 1))] [] (mk I z)) else (e_rI (e_E d 32 [.ref (b + 1), .int (x4 &&& x3), .int x2, .int (e_n (-1))] (mk I z)) (fun v σ => e_L d 39 35 [.ref (b + 1), .int x1, .int x2, .int x3, .int x4, .int x5, .null] [.int v, .int x4] σ) (e_H (e_L d 39) 39 32 [.ref (b + 1), .int x1, .int x2, .int x3, .int x4, .int x5, .null]))) := by
  rcases hb with rfl | rfl
  all_goals exact e_L_to hd39 11 (by generalize e_L d 39 = K; generalize e_E d = E; rfl)
set_option maxRecDepth 20000 in
theorem B39_35 {d : Nat} {I : Nat → Nat → Int32} {z : e_Z} {b : Nat} {x1 x2 x3 x4 x5 y0 y1 : Int32}  : e_L d 39 35 [.ref (b + 1), .int x1, .int x2, .int x3, .int x4, .int x5, .null] [.int y1, .int y0] (mk I z) = (e_L d 39 16 [.ref (b + 1), .int x1, .int x2, .int x3, .int (y0 ||| y1), .int (x5 + e_n 1), .null] [] (mk I z)) := e_L_to hd39 4 (by generalize e_L d 39 = K; generalize e_E d = E; rfl)
set_option maxRecDepth 20000 in
theorem B39_55 {d : Nat} {I : Nat → Nat → Int32} {z : e_Z} {b : Nat} {x1 x2 x3 x4 x5 x6 : Int32}  : e_L d 39 55 [.ref (b + 1), .int x1, .int x2, .int x3, .int x4, .int x5, .int x6] [] (mk I z) = (if e_cc .lt x6 0 = true then (some (.inl (some (.int x5)), mk I z)) else (e_rI (e_E d 174 [.int x4, .int x6] (mk I z)) (fun v σ => e_L d 39 67 [.ref (b + 1), .int x1, .int x2, .int x3, .int x4, .int x5, .int x6] [.int v] σ) (e_H (e_L d 39) 39 64 [.ref (b + 1), .int x1, .int x2, .int x3, .int x4, .int x5, .int x6]))) := e_L_to hd39 5 (by generalize e_L d 39 = K; generalize e_E d = E; rfl)
set_option maxRecDepth 20000 in
theorem B39_67 {d : Nat} {I : Nat → Nat → Int32} {z : e_Z} {b : Nat} {x1 x2 x3 x4 x5 x6 y0 : Int32} (hb : B2 b) : e_L d 39 67 [.ref (b + 1), .int x1, .int x2, .int x3, .int x4, .int x5, .int x6] [.int y0] (mk I z) = (if e_cc .eq y0 0 = true then (e_L d 39 95 [.ref (b + 1), .int x1, .int x2, .int x3, .int x4, .int x5, .int x6] [] (mk I z)) else (e_rI (e_E d 169 [.ref (b + 2), .int x6] (mk I z)) (fun v σ => e_L d 39 79 [.ref (b + 1), .int x1, .int x2, .int x3, .int x4, .int x5, .int x6] [.int v] σ) (e_H (e_L d 39) 39 76 [.ref (b + 1), .int x1, .int x2, .int x3, .int x4, .int x5, .int x6]))) := by
  rcases hb with rfl | rfl
  all_goals exact e_L_to hd39 5 (by generalize e_L d 39 = K; generalize e_E d = E; rfl)
set_option maxRecDepth 20000 in
theorem B39_79 {d : Nat} {I : Nat → Nat → Int32} {z : e_Z} {b : Nat} {x1 x2 x3 x4 x5 x6 y0 : Int32} (hb : B2 b) : e_L d 39 79 [.ref (b + 1), .int x1, .int x2, .int x3, .int x4, .int x5, .int x6] [.int y0] (mk I z) = (e_rI (e_E d 169 [.ref (b + 2), .int x5] (mk I z)) (fun v σ => e_L d 39 88 [.ref (b + 1), .int x1, .int x2, .int x3, .int x4, .int x5, .int x6] [.int v, .int y0] σ) (e_H (e_L d 39) 39 85 [.ref (b + 1), .int x1, .int x2, .int x3, .int x4, .int x5, .int x6])) := by
  rcases hb with rfl | rfl
  all_goals exact e_L_to hd39 4 (by generalize e_L d 39 = K; generalize e_E d = E; rfl)
set_option maxRecDepth 20000 in
theorem B39_88 {d : Nat} {I : Nat → Nat → Int32} {z : e_Z} {b : Nat} {x1 x2 x3 x4 x5 x6 y0 y1 : Int32}  : e_L d 39 88 [.ref (b + 1), .int x1, .int x2, .int x3, .int x4, .int x5, .int x6] [.int y1, .int y0] (mk I z) = (if e_cc .gt y0 y1 = true then (e_L d 39 95 [.ref (b + 1), .int x1, .int x2, .int x3, .int x4, .int x5, .int x6] [] (mk I z)) else (e_L d 39 95 [.ref (b + 1), .int x1, .int x2, .int x3, .int x4, .int x6, .int x6] [] (mk I z))) := e_L_to hd39 3 (by generalize e_L d 39 = K; generalize e_E d = E; rfl)
set_option maxRecDepth 20000 in
theorem B39_95 {d : Nat} {I : Nat → Nat → Int32} {z : e_Z} {b : Nat} {x1 x2 x3 x4 x5 x6 : Int32}  : e_L d 39 95 [.ref (b + 1), .int x1, .int x2, .int x3, .int x4, .int x5, .int x6] [] (mk I z) = (e_L d 39 55 [.ref (b + 1), .int x1, .int x2, .int x3, .int x4, .int x5, .int (x6 + e_n (-1))] [] (mk I z)) := e_L_to hd39 2 (by generalize e_L d 39 = K; generalize e_E d = E; rfl)
def hd41 : List Nat := [0, 8, 32, 36, 48, 53]
set_option maxRecDepth 20000 in
theorem B41_0 {d : Nat} {I : Nat → Nat → Int32} {z : e_Z} {b : Nat} {x3 x4 : Int32}  : e_L d 41 0 [.ref 483, .ref b, .ref 51, .int x3, .int x4, .null] [] (mk I z) = (e_rV (e_E d 47 [.ref 484, .ref 51] (mk I z)) (fun σ => e_L d 41 8 [.ref 483, .ref b, .ref 51, .int x3, .int x4, .null] [] σ) (e_H (e_L d 41) 41 5 [.ref 483, .ref b, .ref 51, .int x3, .int x4, .null])) := e_L_to hd41 4 (by generalize e_L d 41 = K; generalize e_E d = E; rfl)
set_option maxRecDepth 20000 in
theorem B41_8 {d : Nat} {I : Nat → Nat → Int32} {z : e_Z} {b : Nat} {x3 x4 : Int32} (hb : B2 b) : e_L d 41 8 [.ref 483, .ref b, .ref 51, .int x3, .int x4, .null] [] (mk I z) = (if e_cc .eq ((e_u (e_u I 483 2 x3) 483 1 (e_n 0)) b 2) 0 = true then (e_L d 41 32 [.ref 483, .ref b, .ref 51, .int x3, .int x4, .null] [] (mk (e_u (e_u I 483 2 x3) 483 1 (e_n 0)) z)) else (if e_cc .ne ((e_u (e_u I 483 2 x3) 483 1 (e_n 0)) b 6) 0 = true then (e_L d 41 36 [.ref 483, .ref b, .ref 51, .int x3, .int x4, .int (e_n 0)] [] (mk (e_u (e_u I 483 2 x3) 483 1 (e_n 0)) z)) else (e_L d 41 32 [.ref 483, .ref b, .ref 51, .int x3, .int x4, .null] [] (mk (e_u (e_u I 483 2 x3) 483 1 (e_n 0)) z)))) := by
  rcases hb with rfl | rfl
  all_goals exact e_L_to hd41 14 (by generalize e_L d 41 = K; generalize e_E d = E; rfl)
set_option maxRecDepth 20000 in
theorem B41_32 {d : Nat} {I : Nat → Nat → Int32} {z : e_Z} {b : Nat} {x3 x4 : Int32}  : e_L d 41 32 [.ref 483, .ref b, .ref 51, .int x3, .int x4, .null] [] (mk I z) = (some (.inl none, mk I z)) := e_L_to hd41 1 (by generalize e_L d 41 = K; generalize e_E d = E; rfl)
set_option maxRecDepth 20000 in
theorem B41_36 {d : Nat} {I : Nat → Nat → Int32} {z : e_Z} {b : Nat} {x3 x4 x5 : Int32}  : e_L d 41 36 [.ref 483, .ref b, .ref 51, .int x3, .int x4, .int x5] [] (mk I z) = (if e_cc .ge x5 x4 = true then (some (.inl none, mk I z)) else (e_rV (e_E d 43 [.ref 483, .ref b] (mk I z)) (fun σ => e_L d 41 48 [.ref 483, .ref b, .ref 51, .int x3, .int x4, .int x5] [] σ) (e_H (e_L d 41) 41 45 [.ref 483, .ref b, .ref 51, .int x3, .int x4, .int x5]))) := e_L_to hd41 6 (by generalize e_L d 41 = K; generalize e_E d = E; rfl)
set_option maxRecDepth 20000 in
theorem B41_48 {d : Nat} {I : Nat → Nat → Int32} {z : e_Z} {b : Nat} {x3 x4 x5 : Int32}  : e_L d 41 48 [.ref 483, .ref b, .ref 51, .int x3, .int x4, .int x5] [] (mk I z) = (e_rV (e_E d 44 [.ref 483, .ref b] (mk I z)) (fun σ => e_L d 41 53 [.ref 483, .ref b, .ref 51, .int x3, .int x4, .int x5] [] σ) (e_H (e_L d 41) 41 50 [.ref 483, .ref b, .ref 51, .int x3, .int x4, .int x5])) := e_L_to hd41 3 (by generalize e_L d 41 = K; generalize e_E d = E; rfl)
set_option maxRecDepth 20000 in
theorem B41_53 {d : Nat} {I : Nat → Nat → Int32} {z : e_Z} {b : Nat} {x3 x4 x5 : Int32}  : e_L d 41 53 [.ref 483, .ref b, .ref 51, .int x3, .int x4, .int x5] [] (mk I z) = (e_L d 41 36 [.ref 483, .ref b, .ref 51, .int x3, .int x4, .int (x5 + e_n 1)] [] (mk I z)) := e_L_to hd41 2 (by generalize e_L d 41 = K; generalize e_E d = E; rfl)
def hd42 : List Nat := [0, 36]
set_option maxRecDepth 20000 in
theorem B42_0 {d : Nat} {I : Nat → Nat → Int32} {z : e_Z} {x1 : Int32}  : e_L d 42 0 [.ref 483, .int x1] [] (mk I z) = (if e_cc .le x1 0 = true then (e_L d 42 36 [.ref 483, .int x1] [.int (e_n 0)] (mk (e_u I 483 2 (((I 483 2) * (1103515245)) + (e_n 12345))) z)) else (if x1 = 0 then none else (e_L d 42 36 [.ref 483, .int x1] [.int (((e_shr ((e_u I 483 2 (((I 483 2) * (1103515245)) + (e_n 12345))) 483 2) (e_n 16)) &&& (e_n 32767)) - ((e_shr ((e_u I 483 2 (((I 483 2) * (1103515245)) + (e_n 12345))) 483 2) (e_n 16)) &&& (e_n 32767)) / x1 * x1)] (mk (e_u I 483 2 (((I 483 2) * (1103515245)) + (e_n 12345))) z)))) := e_L_to hd42 19 (by generalize e_L d 42 = K; generalize e_E d = E; rfl)
set_option maxRecDepth 20000 in
theorem B42_36 {d : Nat} {I : Nat → Nat → Int32} {z : e_Z} {x1 y0 : Int32}  : e_L d 42 36 [.ref 483, .int x1] [.int y0] (mk I z) = (some (.inl (some (.int y0)), mk I z)) := e_L_to hd42 1 (by generalize e_L d 42 = K; generalize e_E d = E; rfl)
def hd43 : List Nat := [0, 8, 17, 39, 51]
set_option maxRecDepth 20000 in
theorem B43_0 {d : Nat} {I : Nat → Nat → Int32} {z : e_Z} {b : Nat} (hb : B2 b) : e_L d 43 0 [.ref 483, .ref b, .null, .null] [] (mk I z) = (e_rI (e_E d 42 [.ref 483, .int (I b 2)] (mk I z)) (fun v σ => e_L d 43 8 [.ref 483, .ref b, .null, .null] [.int v] σ) (e_H (e_L d 43) 43 5 [.ref 483, .ref b, .null, .null])) := by
  rcases hb with rfl | rfl
  all_goals exact e_L_to hd43 4 (by generalize e_L d 43 = K; generalize e_E d = E; rfl)
set_option maxRecDepth 20000 in
theorem B43_8 {d : Nat} {I : Nat → Nat → Int32} {z : e_Z} {b : Nat} {y0 : Int32} (hb : B2 b) : e_L d 43 8 [.ref 483, .ref b, .null, .null] [.int y0] (mk I z) = (e_rI (e_E d 42 [.ref 483, .int (I b 6)] (mk I z)) (fun v σ => e_L d 43 17 [.ref 483, .ref b, .int y0, .null] [.int v] σ) (e_H (e_L d 43) 43 14 [.ref 483, .ref b, .int y0, .null])) := by
  rcases hb with rfl | rfl
  all_goals exact e_L_to hd43 5 (by generalize e_L d 43 = K; generalize e_E d = E; rfl)
set_option maxRecDepth 20000 in
theorem B43_17 {d : Nat} {I : Nat → Nat → Int32} {z : e_Z} {b : Nat} {x2 y0 : Int32}  : e_L d 43 17 [.ref 483, .ref b, .int x2, .null] [.int y0] (mk I z) = (if e_cc .eq (I 484 4) 0 = true then (e_L d 43 51 [.ref 483, .ref b, .int x2, .int y0] [] (mk I z)) else (e_rI (e_E d 174 [.int (I 484 1), .int y0] (mk I z)) (fun v σ => e_L d 43 39 [.ref 483, .ref b, .int x2, .int y0] [.int v] σ) (e_H (e_L d 43) 43 36 [.ref 483, .ref b, .int x2, .int y0]))) := e_L_to hd43 10 (by generalize e_L d 43 = K; generalize e_E d = E; rfl)
set_option maxRecDepth 20000 in
theorem B43_39 {d : Nat} {I : Nat → Nat → Int32} {z : e_Z} {b : Nat} {x2 x3 y0 : Int32}  : e_L d 43 39 [.ref 483, .ref b, .int x2, .int x3] [.int y0] (mk I z) = (if e_cc .ne y0 0 = true then (e_L d 43 51 [.ref 483, .ref b, .int x2, .int x3] [] (mk I z)) else (e_rV (e_E d 53 [.ref 484, .int x3, .int x2] (mk I z)) (fun σ => e_L d 43 51 [.ref 483, .ref b, .int x2, .int x3] [] σ) (e_H (e_L d 43) 43 48 [.ref 483, .ref b, .int x2, .int x3]))) := e_L_to hd43 6 (by generalize e_L d 43 = K; generalize e_E d = E; rfl)
set_option maxRecDepth 20000 in
theorem B43_51 {d : Nat} {I : Nat → Nat → Int32} {z : e_Z} {b : Nat} {x2 x3 : Int32}  : e_L d 43 51 [.ref 483, .ref b, .int x2, .int x3] [] (mk I z) = (some (.inl none, mk I z)) := e_L_to hd43 1 (by generalize e_L d 43 = K; generalize e_E d = E; rfl)
def hd44 : List Nat := [0, 8, 11, 24, 33, 51, 54, 71, 79, 83]
set_option maxRecDepth 20000 in
theorem B44_0 {d : Nat} {I : Nat → Nat → Int32} {z : e_Z} {b : Nat}  : e_L d 44 0 [.ref 483, .ref b, .null, .null] [] (mk I z) = (e_rI (e_E d 51 [.ref 484, .ref b] (mk I z)) (fun v σ => e_L d 44 8 [.ref 483, .ref b, .null, .null] [.int v] σ) (e_H (e_L d 44) 44 5 [.ref 483, .ref b, .null, .null])) := e_L_to hd44 4 (by generalize e_L d 44 = K; generalize e_E d = E; rfl)
set_option maxRecDepth 20000 in
theorem B44_8 {d : Nat} {I : Nat → Nat → Int32} {z : e_Z} {b : Nat} {y0 : Int32}  : e_L d 44 8 [.ref 483, .ref b, .null, .null] [.int y0] (mk I z) = (e_L d 44 11 [.ref 483, .ref b, .int y0, .int (e_n 0)] [] (mk I z)) := e_L_to hd44 3 (by generalize e_L d 44 = K; generalize e_E d = E; rfl)
set_option maxRecDepth 20000 in
theorem B44_11 {d : Nat} {I : Nat → Nat → Int32} {z : e_Z} {b : Nat} {x2 x3 : Int32} (hb : B2 b) : e_L d 44 11 [.ref 483, .ref b, .int x2, .int x3] [] (mk I z) = (if e_cc .ge x3 (I b 6) = true then (some (.inl none, mk I z)) else (e_rI (e_E d 174 [.int x2, .int x3] (mk I z)) (fun v σ => e_L d 44 24 [.ref 483, .ref b, .int x2, .int x3] [.int v] σ) (e_H (e_L d 44) 44 21 [.ref 483, .ref b, .int x2, .int x3]))) := by
  rcases hb with rfl | rfl
  all_goals exact e_L_to hd44 7 (by generalize e_L d 44 = K; generalize e_E d = E; rfl)
set_option maxRecDepth 20000 in
theorem B44_24 {d : Nat} {I : Nat → Nat → Int32} {z : e_Z} {b : Nat} {x2 x3 y0 : Int32}  : e_L d 44 24 [.ref 483, .ref b, .int x2, .int x3] [.int y0] (mk I z) = (if e_cc .eq y0 0 = true then (e_L d 44 83 [.ref 483, .ref b, .int x2, .int x3] [] (mk I z)) else (e_rI (e_E d 42 [.ref 483, .int (e_n 10)] (mk I z)) (fun v σ => e_L d 44 33 [.ref 483, .ref b, .int x2, .int x3] [.int v] σ) (e_H (e_L d 44) 44 30 [.ref 483, .ref b, .int x2, .int x3]))) := e_L_to hd44 4 (by generalize e_L d 44 = K; generalize e_E d = E; rfl)
set_option maxRecDepth 20000 in
theorem B44_33 {d : Nat} {I : Nat → Nat → Int32} {z : e_Z} {b : Nat} {x2 x3 y0 : Int32} (hb : B2 b) : e_L d 44 33 [.ref 483, .ref b, .int x2, .int x3] [.int y0] (mk I z) = (e_rI (e_E d 169 [.ref 487, .int x3] (mk I z)) (fun v σ => e_L d 44 51 [.ref 483, .ref b, .int x2, .int x3] [.int v, .ref (b + 2), .int y0] σ) (e_H (e_L d 44) 44 48 [.ref 483, .ref b, .int x2, .int x3])) := by
  rcases hb with rfl | rfl
  all_goals exact e_L_to hd44 8 (by generalize e_L d 44 = K; generalize e_E d = E; rfl)
set_option maxRecDepth 20000 in
theorem B44_51 {d : Nat} {I : Nat → Nat → Int32} {z : e_Z} {b : Nat} {x2 x3 y0 y2 : Int32}  : e_L d 44 51 [.ref 483, .ref b, .int x2, .int x3] [.int y2, .ref (b + 2), .int y0] (mk I z) = (e_rI (e_E d 169 [.ref (b + 2), .int y2] (mk I z)) (fun v σ => e_L d 44 54 [.ref 483, .ref b, .int x2, .int x3] [.int v, .int y0] σ) (e_H (e_L d 44) 44 51 [.ref 483, .ref b, .int x2, .int x3])) := e_L_to hd44 1 (by generalize e_L d 44 = K; generalize e_E d = E; rfl)
set_option maxRecDepth 20000 in
theorem B44_54 {d : Nat} {I : Nat → Nat → Int32} {z : e_Z} {b : Nat} {x2 x3 y0 y1 : Int32}  : e_L d 44 54 [.ref 483, .ref b, .int x2, .int x3] [.int y1, .int y0] (mk I z) = (if e_cc .ge y0 y1 = true then (e_L d 44 83 [.ref 483, .ref b, .int x2, .int x3] [] (mk I z)) else (e_rI (e_E d 57 [.ref 484, .ref b, .int x3] (mk I z)) (fun v σ => e_L d 44 71 [.ref 483, .ref b, .int x2, .int x3] [.int v, .int (I 483 1), .ref 483] σ) (e_H (e_L d 44) 44 68 [.ref 483, .ref b, .int x2, .int x3]))) := e_L_to hd44 9 (by generalize e_L d 44 = K; generalize e_E d = E; rfl)
set_option maxRecDepth 20000 in
theorem B44_71 {d : Nat} {I : Nat → Nat → Int32} {z : e_Z} {b : Nat} {x2 x3 y1 y2 : Int32}  : e_L d 44 71 [.ref 483, .ref b, .int x2, .int x3] [.int y2, .int y1, .ref 483] (mk I z) = (if e_cc .ne y2 0 = true then (e_L d 44 79 [.ref 483, .ref b, .int x2, .int x3] [.int (e_n 0), .int y1, .ref 483] (mk I z)) else (e_L d 44 79 [.ref 483, .ref b, .int x2, .int x3] [.int (e_n 1), .int y1, .ref 483] (mk I z))) := e_L_to hd44 3 (by generalize e_L d 44 = K; generalize e_E d = E; rfl)
set_option maxRecDepth 20000 in
theorem B44_79 {d : Nat} {I : Nat → Nat → Int32} {z : e_Z} {b : Nat} {x2 x3 y1 y2 : Int32}  : e_L d 44 79 [.ref 483, .ref b, .int x2, .int x3] [.int y2, .int y1, .ref 483] (mk I z) = (e_L d 44 83 [.ref 483, .ref b, .int x2, .int x3] [] (mk (e_u I 483 1 (y1 + y2)) z)) := e_L_to hd44 2 (by generalize e_L d 44 = K; generalize e_E d = E; rfl)
set_option maxRecDepth 20000 in
theorem B44_83 {d : Nat} {I : Nat → Nat → Int32} {z : e_Z} {b : Nat} {x2 x3 : Int32}  : e_L d 44 83 [.ref 483, .ref b, .int x2, .int x3] [] (mk I z) = (e_L d 44 11 [.ref 483, .ref b, .int x2, .int (x3 + e_n 1)] [] (mk I z)) := e_L_to hd44 2 (by generalize e_L d 44 = K; generalize e_E d = E; rfl)
def hd46 : List Nat := [0, 33, 41, 52, 63]
set_option maxRecDepth 20000 in
theorem B46_0 {d : Nat} {I : Nat → Nat → Int32} {z : e_Z} {a b : Nat} (ha : M3 a) : e_L d 46 0 [.ref a, .ref b] [] (mk I z) = (if 6 = 6 ∧ (e_n 1 = 0 ∨ e_n 1 = 1) then (e_rV (e_E d 172 [.ref (a + 1), .int (e_n (-1))] (mk (e_u (e_u (e_u (e_u (e_u I a 0 (e_n 0)) a 1 (e_n 0)) a 2 (e_n 0)) a 3 (e_n 0)) a 4 (e_n 1)) z)) (fun σ => e_L d 46 33 [.ref a, .ref b] [] σ) (e_H (e_L d 46) 46 30 [.ref a, .ref b])) else none) := by
  rcases ha with rfl | rfl | rfl
  all_goals exact e_L_to hd46 19 (by generalize e_L d 46 = K; generalize e_E d = E; rfl)
set_option maxRecDepth 20000 in
theorem B46_33 {d : Nat} {I : Nat → Nat → Int32} {z : e_Z} {a b : Nat} (ha : M3 a) : e_L d 46 33 [.ref a, .ref b] [] (mk I z) = (e_rV (e_E d 172 [.ref (a + 2), .int (e_n (-1))] (mk I z)) (fun σ => e_L d 46 41 [.ref a, .ref b] [] σ) (e_H (e_L d 46) 46 38 [.ref a, .ref b])) := by
  rcases ha with rfl | rfl | rfl
  all_goals exact e_L_to hd46 4 (by generalize e_L d 46 = K; generalize e_E d = E; rfl)
set_option maxRecDepth 20000 in
theorem B46_41 {d : Nat} {I : Nat → Nat → Int32} {z : e_Z} {a b : Nat} (hb : B2 b) (ha : M3 a) : e_L d 46 41 [.ref a, .ref b] [] (mk I z) = (e_rV (e_E d 171 [.ref (b + 16), .ref (a + 3)] (mk I z)) (fun σ => e_L d 46 52 [.ref a, .ref b] [] σ) (e_H (e_L d 46) 46 49 [.ref a, .ref b])) := by
  rcases hb with rfl | rfl
  all_goals (rcases ha with rfl | rfl | rfl)
  all_goals exact e_L_to hd46 5 (by generalize e_L d 46 = K; generalize e_E d = E; rfl)
set_option maxRecDepth 20000 in
theorem B46_52 {d : Nat} {I : Nat → Nat → Int32} {z : e_Z} {a b : Nat} (hb : B2 b) (ha : M3 a) : e_L d 46 52 [.ref a, .ref b] [] (mk I z) = (e_rV (e_E d 171 [.ref (b + 12), .ref (a + 4)] (mk I z)) (fun σ => e_L d 46 63 [.ref a, .ref b] [] σ) (e_H (e_L d 46) 46 60 [.ref a, .ref b])) := by
  rcases hb with rfl | rfl
  all_goals (rcases ha with rfl | rfl | rfl)
  all_goals exact e_L_to hd46 5 (by generalize e_L d 46 = K; generalize e_E d = E; rfl)
set_option maxRecDepth 20000 in
theorem B46_63 {d : Nat} {I : Nat → Nat → Int32} {z : e_Z} {a b : Nat}  : e_L d 46 63 [.ref a, .ref b] [] (mk I z) = (some (.inl none, mk I z)) := e_L_to hd46 1 (by generalize e_L d 46 = K; generalize e_E d = E; rfl)
def hd47 : List Nat := [0, 51, 62, 73, 84]
set_option maxRecDepth 20000 in
theorem B47_0 {d : Nat} {I : Nat → Nat → Int32} {z : e_Z} {a a2 : Nat}  : e_L d 47 0 [.ref a, .ref a2] [] (mk I z) = (if e_k (mk I z) a2 = 6 then (if e_k (mk I z) a = 6 then (if e_k (mk I z) a2 = 6 then (if e_k (mk I z) a = 6 then (if e_k (mk I z) a2 = 6 then (if e_k (mk I z) a = 6 then (if e_k (mk I z) a2 = 6 then (if e_k (mk I z) a = 6 then (if e_k (mk I z) a2 = 6 then (if e_k (mk I z) a = 6 ∧ ((e_u (e_u (e_u (e_u I a 0 (I a2 0)) a 1 ((e_u I a 0 (I a2 0)) a2 1)) a 2 ((e_u (e_u I a 0 (I a2 0)) a 1 ((e_u I a 0 (I a2 0)) a2 1)) a2 2)) a 3 ((e_u (e_u (e_u I a 0 (I a2 0)) a 1 ((e_u I a 0 (I a2 0)) a2 1)) a 2 ((e_u (e_u I a 0 (I a2 0)) a 1 ((e_u I a 0 (I a2 0)) a2 1)) a2 2)) a2 3)) a2 4 = 0 ∨ (e_u (e_u (e_u (e_u I a 0 (I a2 0)) a 1 ((e_u I a 0 (I a2 0)) a2 1)) a 2 ((e_u (e_u I a 0 (I a2 0)) a 1 ((e_u I a 0 (I a2 0)) a2 1)) a2 2)) a 3 ((e_u (e_u (e_u I a 0 (I a2 0)) a 1 ((e_u I a 0 (I a2 0)) a2 1)) a 2 ((e_u (e_u I a 0 (I a2 0)) a 1 ((e_u I a 0 (I a2 0)) a2 1)) a2 2)) a2 3)) a2 4 = 1) then (if e_k (mk I z) a2 = 6 then (if e_k (mk I z) a = 6 then (e_rV (e_E d 171 [.ref (fr z.2.1 a2 5), .ref (fr z.2.1 a 5)] (mk (e_u (e_u (e_u (e_u (e_u I a 0 (I a2 0)) a 1 ((e_u I a 0 (I a2 0)) a2 1)) a 2 ((e_u (e_u I a 0 (I a2 0)) a 1 ((e_u I a 0 (I a2 0)) a2 1)) a2 2)) a 3 ((e_u (e_u (e_u I a 0 (I a2 0)) a 1 ((e_u I a 0 (I a2 0)) a2 1)) a 2 ((e_u (e_u I a 0 (I a2 0)) a 1 ((e_u I a 0 (I a2 0)) a2 1)) a2 2)) a2 3)) a 4 ((e_u (e_u (e_u (e_u I a 0 (I a2 0)) a 1 ((e_u I a 0 (I a2 0)) a2 1)) a 2 ((e_u (e_u I a 0 (I a2 0)) a 1 ((e_u I a 0 (I a2 0)) a2 1)) a2 2)) a 3 ((e_u (e_u (e_u I a 0 (I a2 0)) a 1 ((e_u I a 0 (I a2 0)) a2 1)) a 2 ((e_u (e_u I a 0 (I a2 0)) a 1 ((e_u I a 0 (I a2 0)) a2 1)) a2 2)) a2 3)) a2 4)) z)) (fun σ => e_L d 47 51 [.ref a, .ref a2] [] σ) (e_H (e_L d 47) 47 48 [.ref a, .ref a2])) else none) else none) else none) else none) else none) else none) else none) else none) else none) else none) else none) else none) := e_L_to hd47 25 (by generalize e_L d 47 = K; generalize e_E d = E; rfl)
set_option maxRecDepth 20000 in
theorem B47_51 {d : Nat} {I : Nat → Nat → Int32} {z : e_Z} {a a2 : Nat}  : e_L d 47 51 [.ref a, .ref a2] [] (mk I z) = (if e_k (mk I z) a2 = 6 then (if e_k (mk I z) a = 6 then (e_rV (e_E d 171 [.ref (fr z.2.1 a2 6), .ref (fr z.2.1 a 6)] (mk I z)) (fun σ => e_L d 47 62 [.ref a, .ref a2] [] σ) (e_H (e_L d 47) 47 59 [.ref a, .ref a2])) else none) else none) := e_L_to hd47 5 (by generalize e_L d 47 = K; generalize e_E d = E; rfl)
set_option maxRecDepth 20000 in
theorem B47_62 {d : Nat} {I : Nat → Nat → Int32} {z : e_Z} {a a2 : Nat}  : e_L d 47 62 [.ref a, .ref a2] [] (mk I z) = (if e_k (mk I z) a2 = 6 then (if e_k (mk I z) a = 6 then (e_rV (e_E d 171 [.ref (fr z.2.1 a2 7), .ref (fr z.2.1 a 7)] (mk I z)) (fun σ => e_L d 47 73 [.ref a, .ref a2] [] σ) (e_H (e_L d 47) 47 70 [.ref a, .ref a2])) else none) else none) := e_L_to hd47 5 (by generalize e_L d 47 = K; generalize e_E d = E; rfl)
set_option maxRecDepth 20000 in
theorem B47_73 {d : Nat} {I : Nat → Nat → Int32} {z : e_Z} {a a2 : Nat}  : e_L d 47 73 [.ref a, .ref a2] [] (mk I z) = (if e_k (mk I z) a2 = 6 then (if e_k (mk I z) a = 6 then (e_rV (e_E d 171 [.ref (fr z.2.1 a2 8), .ref (fr z.2.1 a 8)] (mk I z)) (fun σ => e_L d 47 84 [.ref a, .ref a2] [] σ) (e_H (e_L d 47) 47 81 [.ref a, .ref a2])) else none) else none) := e_L_to hd47 5 (by generalize e_L d 47 = K; generalize e_E d = E; rfl)
set_option maxRecDepth 20000 in
theorem B47_84 {d : Nat} {I : Nat → Nat → Int32} {z : e_Z} {a a2 : Nat}  : e_L d 47 84 [.ref a, .ref a2] [] (mk I z) = (some (.inl none, mk I z)) := e_L_to hd47 1 (by generalize e_L d 47 = K; generalize e_E d = E; rfl)
def hd48 : List Nat := [0, 5, 24, 33, 37]
set_option maxRecDepth 20000 in
theorem B48_0 {d : Nat} {I : Nat → Nat → Int32} {z : e_Z} {a b : Nat} {x2 : Int32}  : e_L d 48 0 [.ref a, .ref b, .int x2, .null, .null] [] (mk I z) = (e_L d 48 5 [.ref a, .ref b, .int x2, .int (e_n 0), .int (e_n 0)] [] (mk I z)) := e_L_to hd48 4 (by generalize e_L d 48 = K; generalize e_E d = E; rfl)
set_option maxRecDepth 20000 in
theorem B48_5 {d : Nat} {I : Nat → Nat → Int32} {z : e_Z} {a b : Nat} {x2 x3 x4 : Int32} (hb : B2 b) (ha : M3 a) : e_L d 48 5 [.ref a, .ref b, .int x2, .int x3, .int x4] [] (mk I z) = (if e_cc .ge x4 (I b 6) = true then (some (.inl (some (.int x3)), mk I z)) else (e_rI (e_E d 169 [.ref (a + 3), .int x4] (mk I z)) (fun v σ => e_L d 48 24 [.ref a, .ref b, .int x2, .int x3, .int x4] [.int v, .int x3] σ) (e_H (e_L d 48) 48 21 [.ref a, .ref b, .int x2, .int x3, .int x4]))) := by
  rcases hb with rfl | rfl
  all_goals (rcases ha with rfl | rfl | rfl)
  all_goals exact e_L_to hd48 9 (by generalize e_L d 48 = K; generalize e_E d = E; rfl)
set_option maxRecDepth 20000 in
theorem B48_24 {d : Nat} {I : Nat → Nat → Int32} {z : e_Z} {a b : Nat} {x2 x3 x4 y0 y1 : Int32}  : e_L d 48 24 [.ref a, .ref b, .int x2, .int x3, .int x4] [.int y1, .int y0] (mk I z) = (if e_cc .ne y1 x2 = true then (e_L d 48 37 [.ref a, .ref b, .int x2, .int x3, .int x4] [.int (e_n 0), .int y0] (mk I z)) else (e_rI (e_E d 173 [.int x4] (mk I z)) (fun v σ => e_L d 48 33 [.ref a, .ref b, .int x2, .int x3, .int x4] [.int v, .int y0] σ) (e_H (e_L d 48) 48 30 [.ref a, .ref b, .int x2, .int x3, .int x4]))) := e_L_to hd48 4 (by generalize e_L d 48 = K; generalize e_E d = E; rfl)
set_option maxRecDepth 20000 in
theorem B48_33 {d : Nat} {I : Nat → Nat → Int32} {z : e_Z} {a b : Nat} {x2 x3 x4 y0 y1 : Int32}  : e_L d 48 33 [.ref a, .ref b, .int x2, .int x3, .int x4] [.int y1, .int y0] (mk I z) = (e_L d 48 37 [.ref a, .ref b, .int x2, .int x3, .int x4] [.int y1, .int y0] (mk I z)) := e_L_to hd48 1 (by generalize e_L d 48 = K; generalize e_E d = E; rfl)
set_option maxRecDepth 20000 in
theorem B48_37 {d : Nat} {I : Nat → Nat → Int32} {z : e_Z} {a b : Nat} {x2 x3 x4 y0 y1 : Int32}  : e_L d 48 37 [.ref a, .ref b, .int x2, .int x3, .int x4] [.int y1, .int y0] (mk I z) = (e_L d 48 5 [.ref a, .ref b, .int x2, .int (y0 ||| y1), .int (x4 + e_n 1)] [] (mk I z)) := e_L_to hd48 4 (by generalize e_L d 48 = K; generalize e_E d = E; rfl)
def hd49 : List Nat := [0, 4, 25, 28, 35, 39]
set_option maxRecDepth 20000 in
theorem B49_0 {d : Nat} {I : Nat → Nat → Int32} {z : e_Z} {a b : Nat}  : e_L d 49 0 [.ref a, .ref b, .null, .null] [] (mk I z) = (e_L d 49 4 [.ref a, .ref b, .int (e_n 0), .int (e_n 0)] [] (mk I z)) := e_L_to hd49 4 (by generalize e_L d 49 = K; generalize e_E d = E; rfl)
set_option maxRecDepth 20000 in
theorem B49_4 {d : Nat} {I : Nat → Nat → Int32} {z : e_Z} {a b : Nat} {x2 x3 : Int32} (hb : B2 b) (ha : M3 a) : e_L d 49 4 [.ref a, .ref b, .int x2, .int x3] [] (mk I z) = (if e_cc .ge x3 (I b 6) = true then (some (.inl (some (.int x2)), mk I z)) else (e_rI (e_E d 169 [.ref (a + 3), .int x3] (mk I z)) (fun v σ => e_L d 49 25 [.ref a, .ref b, .int x2, .int x3] [.int v, .ref (b + 1), .int x2] σ) (e_H (e_L d 49) 49 22 [.ref a, .ref b, .int x2, .int x3]))) := by
  rcases hb with rfl | rfl
  all_goals (rcases ha with rfl | rfl | rfl)
  all_goals exact e_L_to hd49 11 (by generalize e_L d 49 = K; generalize e_E d = E; rfl)
set_option maxRecDepth 20000 in
theorem B49_25 {d : Nat} {I : Nat → Nat → Int32} {z : e_Z} {a b : Nat} {x2 x3 y0 y2 : Int32} (hb : B2 b) : e_L d 49 25 [.ref a, .ref b, .int x2, .int x3] [.int y2, .ref (b + 1), .int y0] (mk I z) = (e_rI (e_E d 28 [.ref (b + 1), .int y2] (mk I z)) (fun v σ => e_L d 49 28 [.ref a, .ref b, .int x2, .int x3] [.int v, .int y0] σ) (e_H (e_L d 49) 49 25 [.ref a, .ref b, .int x2, .int x3])) := by
  rcases hb with rfl | rfl
  all_goals exact e_L_to hd49 1 (by generalize e_L d 49 = K; generalize e_E d = E; rfl)
set_option maxRecDepth 20000 in
theorem B49_28 {d : Nat} {I : Nat → Nat → Int32} {z : e_Z} {a b : Nat} {x2 x3 y0 y1 : Int32}  : e_L d 49 28 [.ref a, .ref b, .int x2, .int x3] [.int y1, .int y0] (mk I z) = (if e_cc .eq y1 0 = true then (e_L d 49 39 [.ref a, .ref b, .int x2, .int x3] [.int (e_n 0), .int y0] (mk I z)) else (e_rI (e_E d 173 [.int x3] (mk I z)) (fun v σ => e_L d 49 35 [.ref a, .ref b, .int x2, .int x3] [.int v, .int y0] σ) (e_H (e_L d 49) 49 32 [.ref a, .ref b, .int x2, .int x3]))) := e_L_to hd49 3 (by generalize e_L d 49 = K; generalize e_E d = E; rfl)
set_option maxRecDepth 20000 in
theorem B49_35 {d : Nat} {I : Nat → Nat → Int32} {z : e_Z} {a b : Nat} {x2 x3 y0 y1 : Int32}  : e_L d 49 35 [.ref a, .ref b, .int x2, .int x3] [.int y1, .int y0] (mk I z) = (e_L d 49 39 [.ref a, .ref b, .int x2, .int x3] [.int y1, .int y0] (mk I z)) := e_L_to hd49 1 (by generalize e_L d 49 = K; generalize e_E d = E; rfl)
set_option maxRecDepth 20000 in
theorem B49_39 {d : Nat} {I : Nat → Nat → Int32} {z : e_Z} {a b : Nat} {x2 x3 y0 y1 : Int32}  : e_L d 49 39 [.ref a, .ref b, .int x2, .int x3] [.int y1, .int y0] (mk I z) = (e_L d 49 4 [.ref a, .ref b, .int (y0 ||| y1), .int (x3 + e_n 1)] [] (mk I z)) := e_L_to hd49 4 (by generalize e_L d 49 = K; generalize e_E d = E; rfl)
def hd50 : List Nat := [0, 8, 23, 26, 29, 34]
set_option maxRecDepth 20000 in
theorem B50_0 {d : Nat} {I : Nat → Nat → Int32} {z : e_Z} {a b : Nat} {x2 : Int32} (ha : M3 a) : e_L d 50 0 [.ref a, .ref b, .int x2] [] (mk I z) = (e_rI (e_E d 174 [.int (I a 2), .int x2] (mk I z)) (fun v σ => e_L d 50 8 [.ref a, .ref b, .int x2] [.int v] σ) (e_H (e_L d 50) 50 5 [.ref a, .ref b, .int x2])) := by
  rcases ha with rfl | rfl | rfl
  all_goals exact e_L_to hd50 4 (by generalize e_L d 50 = K; generalize e_E d = E; rfl)
set_option maxRecDepth 20000 in
theorem B50_8 {d : Nat} {I : Nat → Nat → Int32} {z : e_Z} {a b : Nat} {x2 y0 : Int32} (hb : B2 b) (ha : M3 a) : e_L d 50 8 [.ref a, .ref b, .int x2] [.int y0] (mk I z) = (if e_cc .ne y0 0 = true then (e_L d 50 29 [.ref a, .ref b, .int x2] [] (mk I z)) else (e_rI (e_E d 169 [.ref (a + 3), .int x2] (mk I z)) (fun v σ => e_L d 50 23 [.ref a, .ref b, .int x2] [.int v, .ref (b + 1)] σ) (e_H (e_L d 50) 50 20 [.ref a, .ref b, .int x2]))) := by
  rcases hb with rfl | rfl
  all_goals (rcases ha with rfl | rfl | rfl)
  all_goals exact e_L_to hd50 7 (by generalize e_L d 50 = K; generalize e_E d = E; rfl)
set_option maxRecDepth 20000 in
theorem B50_23 {d : Nat} {I : Nat → Nat → Int32} {z : e_Z} {a b : Nat} {x2 y1 : Int32} (hb : B2 b) : e_L d 50 23 [.ref a, .ref b, .int x2] [.int y1, .ref (b + 1)] (mk I z) = (e_rI (e_E d 28 [.ref (b + 1), .int y1] (mk I z)) (fun v σ => e_L d 50 26 [.ref a, .ref b, .int x2] [.int v] σ) (e_H (e_L d 50) 50 23 [.ref a, .ref b, .int x2])) := by
  rcases hb with rfl | rfl
  all_goals exact e_L_to hd50 1 (by generalize e_L d 50 = K; generalize e_E d = E; rfl)
set_option maxRecDepth 20000 in
theorem B50_26 {d : Nat} {I : Nat → Nat → Int32} {z : e_Z} {a b : Nat} {x2 y0 : Int32}  : e_L d 50 26 [.ref a, .ref b, .int x2] [.int y0] (mk I z) = (if e_cc .eq y0 0 = true then (e_L d 50 34 [.ref a, .ref b, .int x2] [.int (e_n 0)] (mk I z)) else (e_L d 50 29 [.ref a, .ref b, .int x2] [] (mk I z))) := e_L_to hd50 2 (by generalize e_L d 50 = K; generalize e_E d = E; rfl)
set_option maxRecDepth 20000 in
theorem B50_29 {d : Nat} {I : Nat → Nat → Int32} {z : e_Z} {a b : Nat} {x2 : Int32}  : e_L d 50 29 [.ref a, .ref b, .int x2] [] (mk I z) = (e_L d 50 34 [.ref a, .ref b, .int x2] [.int (e_n 1)] (mk I z)) := e_L_to hd50 2 (by generalize e_L d 50 = K; generalize e_E d = E; rfl)
set_option maxRecDepth 20000 in
theorem B50_34 {d : Nat} {I : Nat → Nat → Int32} {z : e_Z} {a b : Nat} {x2 y0 : Int32}  : e_L d 50 34 [.ref a, .ref b, .int x2] [.int y0] (mk I z) = (if y0 = 0 ∨ y0 = 1 then some (.inl (some (.int y0)), mk I z) else none) := e_L_to hd50 1 (by generalize e_L d 50 = K; generalize e_E d = E; rfl)
def hd51 : List Nat := [0, 16]
set_option maxRecDepth 20000 in
theorem B51_0 {d : Nat} {I : Nat → Nat → Int32} {z : e_Z} {a b : Nat} (ha : M3 a) : e_L d 51 0 [.ref a, .ref b] [] (mk I z) = (e_rI (e_E d 49 [.ref a, .ref b] (mk I z)) (fun v σ => e_L d 51 16 [.ref a, .ref b] [.int v, .int ((I a 1) &&& ((I a 2) ^^^ (e_n (-1))))] σ) (e_H (e_L d 51) 51 13 [.ref a, .ref b])) := by
  rcases ha with rfl | rfl | rfl
  all_goals exact e_L_to hd51 10 (by generalize e_L d 51 = K; generalize e_E d = E; rfl)
set_option maxRecDepth 20000 in
theorem B51_16 {d : Nat} {I : Nat → Nat → Int32} {z : e_Z} {a b : Nat} {y0 y1 : Int32}  : e_L d 51 16 [.ref a, .ref b] [.int y1, .int y0] (mk I z) = (some (.inl (some (.int (y0 &&& (y1 ^^^ (e_n (-1)))))), mk I z)) := e_L_to hd51 4 (by generalize e_L d 51 = K; generalize e_E d = E; rfl)
def hd52 : List Nat := [0, 4, 19, 27, 31]
set_option maxRecDepth 20000 in
theorem B52_0 {d : Nat} {I : Nat → Nat → Int32} {z : e_Z} {a : Nat} {x1 : Int32}  : e_L d 52 0 [.ref a, .int x1, .null, .null] [] (mk I z) = (e_L d 52 4 [.ref a, .int x1, .int (e_n 0), .int (e_n 0)] [] (mk I z)) := e_L_to hd52 4 (by generalize e_L d 52 = K; generalize e_E d = E; rfl)
set_option maxRecDepth 20000 in
theorem B52_4 {d : Nat} {I : Nat → Nat → Int32} {z : e_Z} {a : Nat} {x1 x2 x3 : Int32} (ha : M3 a) : e_L d 52 4 [.ref a, .int x1, .int x2, .int x3] [] (mk I z) = (if e_cc .ge x3 (e_n 9) = true then (some (.inl (some (.int x2)), mk I z)) else (e_rI (e_E d 169 [.ref (a + 2), .int x3] (mk I z)) (fun v σ => e_L d 52 19 [.ref a, .int x1, .int x2, .int x3] [.int v, .int x2] σ) (e_H (e_L d 52) 52 16 [.ref a, .int x1, .int x2, .int x3]))) := by
  rcases ha with rfl | rfl | rfl
  all_goals exact e_L_to hd52 8 (by generalize e_L d 52 = K; generalize e_E d = E; rfl)
set_option maxRecDepth 20000 in
theorem B52_19 {d : Nat} {I : Nat → Nat → Int32} {z : e_Z} {a : Nat} {x1 x2 x3 y0 y1 : Int32}  : e_L d 52 19 [.ref a, .int x1, .int x2, .int x3] [.int y1, .int y0] (mk I z) = (if e_cc .ne y1 x1 = true then (e_L d 52 31 [.ref a, .int x1, .int x2, .int x3] [.int (e_n 0), .int y0] (mk I z)) else (e_rI (e_E d 173 [.int x3] (mk I z)) (fun v σ => e_L d 52 27 [.ref a, .int x1, .int x2, .int x3] [.int v, .int y0] σ) (e_H (e_L d 52) 52 24 [.ref a, .int x1, .int x2, .int x3]))) := e_L_to hd52 4 (by generalize e_L d 52 = K; generalize e_E d = E; rfl)
set_option maxRecDepth 20000 in
theorem B52_27 {d : Nat} {I : Nat → Nat → Int32} {z : e_Z} {a : Nat} {x1 x2 x3 y0 y1 : Int32}  : e_L d 52 27 [.ref a, .int x1, .int x2, .int x3] [.int y1, .int y0] (mk I z) = (e_L d 52 31 [.ref a, .int x1, .int x2, .int x3] [.int y1, .int y0] (mk I z)) := e_L_to hd52 1 (by generalize e_L d 52 = K; generalize e_E d = E; rfl)
set_option maxRecDepth 20000 in
theorem B52_31 {d : Nat} {I : Nat → Nat → Int32} {z : e_Z} {a : Nat} {x1 x2 x3 y0 y1 : Int32}  : e_L d 52 31 [.ref a, .int x1, .int x2, .int x3] [.int y1, .int y0] (mk I z) = (e_L d 52 4 [.ref a, .int x1, .int (y0 ||| y1), .int (x3 + e_n 1)] [] (mk I z)) := e_L_to hd52 4 (by generalize e_L d 52 = K; generalize e_E d = E; rfl)
def hd53 : List Nat := [0, 9, 25, 34]
set_option maxRecDepth 20000 in
theorem B53_0 {d : Nat} {I : Nat → Nat → Int32} {z : e_Z} {a : Nat} {x1 x2 : Int32} (ha : M3 a) : e_L d 53 0 [.ref a, .int x1, .int x2] [] (mk I z) = (e_rI (e_E d 173 [.int x1] (mk I z)) (fun v σ => e_L d 53 9 [.ref a, .int x1, .int x2] [.int v, .int (I a 1), .ref a] σ) (e_H (e_L d 53) 53 6 [.ref a, .int x1, .int x2])) := by
  rcases ha with rfl | rfl | rfl
  all_goals exact e_L_to hd53 5 (by generalize e_L d 53 = K; generalize e_E d = E; rfl)
set_option maxRecDepth 20000 in
theorem B53_9 {d : Nat} {I : Nat → Nat → Int32} {z : e_Z} {a : Nat} {x1 x2 y1 y2 : Int32} (ha : M3 a) : e_L d 53 9 [.ref a, .int x1, .int x2] [.int y2, .int y1, .ref a] (mk I z) = (e_rV (e_E d 170 [.ref (a + 1), .int x1, .int ((e_u I a 1 (y1 ||| y2)) a 0)] (mk (e_u I a 1 (y1 ||| y2)) z)) (fun σ => e_L d 53 25 [.ref a, .int x1, .int x2] [] σ) (e_H (e_L d 53) 53 22 [.ref a, .int x1, .int x2])) := by
  rcases ha with rfl | rfl | rfl
  all_goals exact e_L_to hd53 8 (by generalize e_L d 53 = K; generalize e_E d = E; rfl)
set_option maxRecDepth 20000 in
theorem B53_25 {d : Nat} {I : Nat → Nat → Int32} {z : e_Z} {a : Nat} {x1 x2 : Int32} (ha : M3 a) : e_L d 53 25 [.ref a, .int x1, .int x2] [] (mk I z) = (e_rV (e_E d 170 [.ref (a + 2), .int x1, .int x2] (mk I z)) (fun σ => e_L d 53 34 [.ref a, .int x1, .int x2] [] σ) (e_H (e_L d 53) 53 31 [.ref a, .int x1, .int x2])) := by
  rcases ha with rfl | rfl | rfl
  all_goals exact e_L_to hd53 5 (by generalize e_L d 53 = K; generalize e_E d = E; rfl)
set_option maxRecDepth 20000 in
theorem B53_34 {d : Nat} {I : Nat → Nat → Int32} {z : e_Z} {a : Nat} {x1 x2 : Int32}  : e_L d 53 34 [.ref a, .int x1, .int x2] [] (mk I z) = (some (.inl none, mk I z)) := e_L_to hd53 1 (by generalize e_L d 53 = K; generalize e_E d = E; rfl)
def hd54 : List Nat := [0, 9, 24, 33]
set_option maxRecDepth 20000 in
theorem B54_0 {d : Nat} {I : Nat → Nat → Int32} {z : e_Z} {a : Nat} {x1 : Int32} (ha : M3 a) : e_L d 54 0 [.ref a, .int x1] [] (mk I z) = (e_rI (e_E d 173 [.int x1] (mk I z)) (fun v σ => e_L d 54 9 [.ref a, .int x1] [.int v, .int (I a 1), .ref a] σ) (e_H (e_L d 54) 54 6 [.ref a, .int x1])) := by
  rcases ha with rfl | rfl | rfl
  all_goals exact e_L_to hd54 5 (by generalize e_L d 54 = K; generalize e_E d = E; rfl)
set_option maxRecDepth 20000 in
theorem B54_9 {d : Nat} {I : Nat → Nat → Int32} {z : e_Z} {a : Nat} {x1 y1 y2 : Int32} (ha : M3 a) : e_L d 54 9 [.ref a, .int x1] [.int y2, .int y1, .ref a] (mk I z) = (e_rV (e_E d 170 [.ref (a + 1), .int x1, .int (e_n (-1))] (mk (e_u I a 1 (y1 &&& (y2 ^^^ (e_n (-1))))) z)) (fun σ => e_L d 54 24 [.ref a, .int x1] [] σ) (e_H (e_L d 54) 54 21 [.ref a, .int x1])) := by
  rcases ha with rfl | rfl | rfl
  all_goals exact e_L_to hd54 9 (by generalize e_L d 54 = K; generalize e_E d = E; rfl)
set_option maxRecDepth 20000 in
theorem B54_24 {d : Nat} {I : Nat → Nat → Int32} {z : e_Z} {a : Nat} {x1 : Int32} (ha : M3 a) : e_L d 54 24 [.ref a, .int x1] [] (mk I z) = (e_rV (e_E d 170 [.ref (a + 2), .int x1, .int (e_n (-1))] (mk I z)) (fun σ => e_L d 54 33 [.ref a, .int x1] [] σ) (e_H (e_L d 54) 54 30 [.ref a, .int x1])) := by
  rcases ha with rfl | rfl | rfl
  all_goals exact e_L_to hd54 5 (by generalize e_L d 54 = K; generalize e_E d = E; rfl)
set_option maxRecDepth 20000 in
theorem B54_33 {d : Nat} {I : Nat → Nat → Int32} {z : e_Z} {a : Nat} {x1 : Int32}  : e_L d 54 33 [.ref a, .int x1] [] (mk I z) = (some (.inl none, mk I z)) := e_L_to hd54 1 (by generalize e_L d 54 = K; generalize e_E d = E; rfl)
def hd55 : List Nat := [0, 11, 22, 34, 37, 49, 52, 64, 68, 76, 79, 91, 95, 103, 106, 118, 126, 129, 140, 143, 154, 165, 170]
set_option maxRecDepth 20000 in
theorem B55_0 {d : Nat} {I : Nat → Nat → Int32} {z : e_Z} {a b : Nat} {x2 x3 : Int32} (hb : B2 b) : e_L d 55 0 [.ref a, .ref b, .int x2, .int x3, .null] [] (mk I z) = (e_rI (e_E d 88 [.ref (b + 8)] (mk I z)) (fun v σ => e_L d 55 11 [.ref a, .ref b, .int x2, .int x3, .ref (b + 8)] [.int v] σ) (e_H (e_L d 55) 55 8 [.ref a, .ref b, .int x2, .int x3, .ref (b + 8)])) := by
  rcases hb with rfl | rfl
  all_goals exact e_L_to hd55 5 (by generalize e_L d 55 = K; generalize e_E d = E; rfl)
set_option maxRecDepth 20000 in
theorem B55_11 {d : Nat} {I : Nat → Nat → Int32} {z : e_Z} {a b : Nat} {x2 x3 y0 : Int32} (hb : B2 b) : e_L d 55 11 [.ref a, .ref b, .int x2, .int x3, .ref (b + 8)] [.int y0] (mk I z) = (if e_cc .ne y0 0 = true then (e_rI (e_E d 169 [.ref (b + 15), .int x3] (mk I z)) (fun v σ => e_L d 55 34 [.ref a, .ref b, .int x2, .int x3, .ref (b + 8)] [.int v, .int (e_n (-1)), .ref (b + 8)] σ) (e_H (e_L d 55) 55 31 [.ref a, .ref b, .int x2, .int x3, .ref (b + 8)])) else (e_rI (e_E d 169 [.ref (b + 15), .int x3] (mk I z)) (fun v σ => e_L d 55 22 [.ref a, .ref b, .int x2, .int x3, .ref (b + 8)] [.int v] σ) (e_H (e_L d 55) 55 19 [.ref a, .ref b, .int x2, .int x3, .ref (b + 8)]))) := by
  rcases hb with rfl | rfl
  all_goals exact e_L_to hd55 7 (by generalize e_L d 55 = K; generalize e_E d = E; rfl)
set_option maxRecDepth 20000 in
theorem B55_22 {d : Nat} {I : Nat → Nat → Int32} {z : e_Z} {a b : Nat} {x2 x3 y0 : Int32}  : e_L d 55 22 [.ref a, .ref b, .int x2, .int x3, .ref (b + 8)] [.int y0] (mk I z) = (some (.inl (some (.int y0)), mk I z)) := e_L_to hd55 1 (by generalize e_L d 55 = K; generalize e_E d = E; rfl)
set_option maxRecDepth 20000 in
theorem B55_34 {d : Nat} {I : Nat → Nat → Int32} {z : e_Z} {a b : Nat} {x2 x3 y1 y2 : Int32} (hb : B2 b) : e_L d 55 34 [.ref a, .ref b, .int x2, .int x3, .ref (b + 8)] [.int y2, .int y1, .ref (b + 8)] (mk I z) = (e_rV (e_E d 90 [.ref (b + 8), .int y1, .int y2] (mk I z)) (fun σ => e_L d 55 37 [.ref a, .ref b, .int x2, .int x3, .ref (b + 8)] [] σ) (e_H (e_L d 55) 55 34 [.ref a, .ref b, .int x2, .int x3, .ref (b + 8)])) := by
  rcases hb with rfl | rfl
  all_goals exact e_L_to hd55 1 (by generalize e_L d 55 = K; generalize e_E d = E; rfl)
set_option maxRecDepth 20000 in
theorem B55_37 {d : Nat} {I : Nat → Nat → Int32} {z : e_Z} {a b : Nat} {x2 x3 : Int32} (ha : M3 a) : e_L d 55 37 [.ref a, .ref b, .int x2, .int x3, .ref (b + 8)] [] (mk I z) = (e_rI (e_E d 169 [.ref (a + 4), .int x2] (mk I z)) (fun v σ => e_L d 55 49 [.ref a, .ref b, .int x2, .int x3, .ref (b + 8)] [.int v, .int (e_n (-2)), .ref (b + 8)] σ) (e_H (e_L d 55) 55 46 [.ref a, .ref b, .int x2, .int x3, .ref (b + 8)])) := by
  rcases ha with rfl | rfl | rfl
  all_goals exact e_L_to hd55 6 (by generalize e_L d 55 = K; generalize e_E d = E; rfl)
set_option maxRecDepth 20000 in
theorem B55_49 {d : Nat} {I : Nat → Nat → Int32} {z : e_Z} {a b : Nat} {x2 x3 y1 y2 : Int32} (hb : B2 b) : e_L d 55 49 [.ref a, .ref b, .int x2, .int x3, .ref (b + 8)] [.int y2, .int y1, .ref (b + 8)] (mk I z) = (e_rV (e_E d 90 [.ref (b + 8), .int y1, .int y2] (mk I z)) (fun σ => e_L d 55 52 [.ref a, .ref b, .int x2, .int x3, .ref (b + 8)] [] σ) (e_H (e_L d 55) 55 49 [.ref a, .ref b, .int x2, .int x3, .ref (b + 8)])) := by
  rcases hb with rfl | rfl
  all_goals exact e_L_to hd55 1 (by generalize e_L d 55 = K; generalize e_E d = E; rfl)
set_option maxRecDepth 20000 in
theorem B55_52 {d : Nat} {I : Nat → Nat → Int32} {z : e_Z} {a b : Nat} {x2 x3 : Int32} (hb : B2 b) : e_L d 55 52 [.ref a, .ref b, .int x2, .int x3, .ref (b + 8)] [] (mk I z) = (e_rI (e_E d 169 [.ref (b + 14), .int x2] (mk I z)) (fun v σ => e_L d 55 64 [.ref a, .ref b, .int x2, .int x3, .ref (b + 8)] [.int v, .int (e_n (-3)), .ref (b + 8)] σ) (e_H (e_L d 55) 55 61 [.ref a, .ref b, .int x2, .int x3, .ref (b + 8)])) := by
  rcases hb with rfl | rfl
  all_goals exact e_L_to hd55 6 (by generalize e_L d 55 = K; generalize e_E d = E; rfl)
set_option maxRecDepth 20000 in
theorem B55_64 {d : Nat} {I : Nat → Nat → Int32} {z : e_Z} {a b : Nat} {x2 x3 y1 y2 : Int32}  : e_L d 55 64 [.ref a, .ref b, .int x2, .int x3, .ref (b + 8)] [.int y2, .int y1, .ref (b + 8)] (mk I z) = (e_rI (e_E d 174 [.int y2, .int x3] (mk I z)) (fun v σ => e_L d 55 68 [.ref a, .ref b, .int x2, .int x3, .ref (b + 8)] [.int v, .int y1, .ref (b + 8)] σ) (e_H (e_L d 55) 55 65 [.ref a, .ref b, .int x2, .int x3, .ref (b + 8)])) := e_L_to hd55 2 (by generalize e_L d 55 = K; generalize e_E d = E; rfl)
set_option maxRecDepth 20000 in
theorem B55_68 {d : Nat} {I : Nat → Nat → Int32} {z : e_Z} {a b : Nat} {x2 x3 y1 y2 : Int32}  : e_L d 55 68 [.ref a, .ref b, .int x2, .int x3, .ref (b + 8)] [.int y2, .int y1, .ref (b + 8)] (mk I z) = (if e_cc .eq y2 0 = true then (e_L d 55 76 [.ref a, .ref b, .int x2, .int x3, .ref (b + 8)] [.int (e_n 0), .int y1, .ref (b + 8)] (mk I z)) else (e_L d 55 76 [.ref a, .ref b, .int x2, .int x3, .ref (b + 8)] [.int (e_n 1), .int y1, .ref (b + 8)] (mk I z))) := e_L_to hd55 3 (by generalize e_L d 55 = K; generalize e_E d = E; rfl)
set_option maxRecDepth 20000 in
theorem B55_76 {d : Nat} {I : Nat → Nat → Int32} {z : e_Z} {a b : Nat} {x2 x3 y1 y2 : Int32} (hb : B2 b) : e_L d 55 76 [.ref a, .ref b, .int x2, .int x3, .ref (b + 8)] [.int y2, .int y1, .ref (b + 8)] (mk I z) = (e_rV (e_E d 90 [.ref (b + 8), .int y1, .int y2] (mk I z)) (fun σ => e_L d 55 79 [.ref a, .ref b, .int x2, .int x3, .ref (b + 8)] [] σ) (e_H (e_L d 55) 55 76 [.ref a, .ref b, .int x2, .int x3, .ref (b + 8)])) := by
  rcases hb with rfl | rfl
  all_goals exact e_L_to hd55 1 (by generalize e_L d 55 = K; generalize e_E d = E; rfl)
set_option maxRecDepth 20000 in
theorem B55_79 {d : Nat} {I : Nat → Nat → Int32} {z : e_Z} {a b : Nat} {x2 x3 : Int32} (hb : B2 b) : e_L d 55 79 [.ref a, .ref b, .int x2, .int x3, .ref (b + 8)] [] (mk I z) = (e_rI (e_E d 169 [.ref (b + 13), .int x2] (mk I z)) (fun v σ => e_L d 55 91 [.ref a, .ref b, .int x2, .int x3, .ref (b + 8)] [.int v, .int (e_n (-4)), .ref (b + 8)] σ) (e_H (e_L d 55) 55 88 [.ref a, .ref b, .int x2, .int x3, .ref (b + 8)])) := by
  rcases hb with rfl | rfl
  all_goals exact e_L_to hd55 6 (by generalize e_L d 55 = K; generalize e_E d = E; rfl)
set_option maxRecDepth 20000 in
theorem B55_91 {d : Nat} {I : Nat → Nat → Int32} {z : e_Z} {a b : Nat} {x2 x3 y1 y2 : Int32}  : e_L d 55 91 [.ref a, .ref b, .int x2, .int x3, .ref (b + 8)] [.int y2, .int y1, .ref (b + 8)] (mk I z) = (e_rI (e_E d 174 [.int y2, .int x3] (mk I z)) (fun v σ => e_L d 55 95 [.ref a, .ref b, .int x2, .int x3, .ref (b + 8)] [.int v, .int y1, .ref (b + 8)] σ) (e_H (e_L d 55) 55 92 [.ref a, .ref b, .int x2, .int x3, .ref (b + 8)])) := e_L_to hd55 2 (by generalize e_L d 55 = K; generalize e_E d = E; rfl)
set_option maxRecDepth 20000 in
theorem B55_95 {d : Nat} {I : Nat → Nat → Int32} {z : e_Z} {a b : Nat} {x2 x3 y1 y2 : Int32}  : e_L d 55 95 [.ref a, .ref b, .int x2, .int x3, .ref (b + 8)] [.int y2, .int y1, .ref (b + 8)] (mk I z) = (if e_cc .eq y2 0 = true then (e_L d 55 103 [.ref a, .ref b, .int x2, .int x3, .ref (b + 8)] [.int (e_n 0), .int y1, .ref (b + 8)] (mk I z)) else (e_L d 55 103 [.ref a, .ref b, .int x2, .int x3, .ref (b + 8)] [.int (e_n 1), .int y1, .ref (b + 8)] (mk I z))) := e_L_to hd55 3 (by generalize e_L d 55 = K; generalize e_E d = E; rfl)
set_option maxRecDepth 20000 in
theorem B55_103 {d : Nat} {I : Nat → Nat → Int32} {z : e_Z} {a b : Nat} {x2 x3 y1 y2 : Int32} (hb : B2 b) : e_L d 55 103 [.ref a, .ref b, .int x2, .int x3, .ref (b + 8)] [.int y2, .int y1, .ref (b + 8)] (mk I z) = (e_rV (e_E d 90 [.ref (b + 8), .int y1, .int y2] (mk I z)) (fun σ => e_L d 55 106 [.ref a, .ref b, .int x2, .int x3, .ref (b + 8)] [] σ) (e_H (e_L d 55) 55 103 [.ref a, .ref b, .int x2, .int x3, .ref (b + 8)])) := by
  rcases hb with rfl | rfl
  all_goals exact e_L_to hd55 1 (by generalize e_L d 55 = K; generalize e_E d = E; rfl)
set_option maxRecDepth 20000 in
theorem B55_106 {d : Nat} {I : Nat → Nat → Int32} {z : e_Z} {a b : Nat} {x2 x3 : Int32} (hb : B2 b) : e_L d 55 106 [.ref a, .ref b, .int x2, .int x3, .ref (b + 8)] [] (mk I z) = (e_rI (e_E d 169 [.ref (b + 17), .int x3] (mk I z)) (fun v σ => e_L d 55 118 [.ref a, .ref b, .int x2, .int x3, .ref (b + 8)] [.int v, .int (e_n (-5)), .ref (b + 8)] σ) (e_H (e_L d 55) 55 115 [.ref a, .ref b, .int x2, .int x3, .ref (b + 8)])) := by
  rcases hb with rfl | rfl
  all_goals exact e_L_to hd55 6 (by generalize e_L d 55 = K; generalize e_E d = E; rfl)
set_option maxRecDepth 20000 in
theorem B55_118 {d : Nat} {I : Nat → Nat → Int32} {z : e_Z} {a b : Nat} {x2 x3 y1 y2 : Int32} (ha : M3 a) : e_L d 55 118 [.ref a, .ref b, .int x2, .int x3, .ref (b + 8)] [.int y2, .int y1, .ref (b + 8)] (mk I z) = (e_rI (e_E d 329 [.int (y2 &&& (I a 1))] (mk I z)) (fun v σ => e_L d 55 126 [.ref a, .ref b, .int x2, .int x3, .ref (b + 8)] [.int v, .int y1, .ref (b + 8)] σ) (e_H (e_L d 55) 55 123 [.ref a, .ref b, .int x2, .int x3, .ref (b + 8)])) := by
  rcases ha with rfl | rfl | rfl
  all_goals exact e_L_to hd55 4 (by generalize e_L d 55 = K; generalize e_E d = E; rfl)
set_option maxRecDepth 20000 in
theorem B55_126 {d : Nat} {I : Nat → Nat → Int32} {z : e_Z} {a b : Nat} {x2 x3 y1 y2 : Int32} (hb : B2 b) : e_L d 55 126 [.ref a, .ref b, .int x2, .int x3, .ref (b + 8)] [.int y2, .int y1, .ref (b + 8)] (mk I z) = (e_rV (e_E d 90 [.ref (b + 8), .int y1, .int y2] (mk I z)) (fun σ => e_L d 55 129 [.ref a, .ref b, .int x2, .int x3, .ref (b + 8)] [] σ) (e_H (e_L d 55) 55 126 [.ref a, .ref b, .int x2, .int x3, .ref (b + 8)])) := by
  rcases hb with rfl | rfl
  all_goals exact e_L_to hd55 1 (by generalize e_L d 55 = K; generalize e_E d = E; rfl)
set_option maxRecDepth 20000 in
theorem B55_129 {d : Nat} {I : Nat → Nat → Int32} {z : e_Z} {a b : Nat} {x2 x3 : Int32} (ha : M3 a) : e_L d 55 129 [.ref a, .ref b, .int x2, .int x3, .ref (b + 8)] [] (mk I z) = (e_rI (e_E d 329 [.int (I a 1)] (mk I z)) (fun v σ => e_L d 55 140 [.ref a, .ref b, .int x2, .int x3, .ref (b + 8)] [.int v, .int (e_n (-6)), .ref (b + 8)] σ) (e_H (e_L d 55) 55 137 [.ref a, .ref b, .int x2, .int x3, .ref (b + 8)])) := by
  rcases ha with rfl | rfl | rfl
  all_goals exact e_L_to hd55 5 (by generalize e_L d 55 = K; generalize e_E d = E; rfl)
set_option maxRecDepth 20000 in
theorem B55_140 {d : Nat} {I : Nat → Nat → Int32} {z : e_Z} {a b : Nat} {x2 x3 y1 y2 : Int32} (hb : B2 b) : e_L d 55 140 [.ref a, .ref b, .int x2, .int x3, .ref (b + 8)] [.int y2, .int y1, .ref (b + 8)] (mk I z) = (e_rV (e_E d 90 [.ref (b + 8), .int y1, .int y2] (mk I z)) (fun σ => e_L d 55 143 [.ref a, .ref b, .int x2, .int x3, .ref (b + 8)] [] σ) (e_H (e_L d 55) 55 140 [.ref a, .ref b, .int x2, .int x3, .ref (b + 8)])) := by
  rcases hb with rfl | rfl
  all_goals exact e_L_to hd55 1 (by generalize e_L d 55 = K; generalize e_E d = E; rfl)
set_option maxRecDepth 20000 in
theorem B55_143 {d : Nat} {I : Nat → Nat → Int32} {z : e_Z} {a b : Nat} {x2 x3 : Int32} (hb : B2 b) (ha : M3 a) : e_L d 55 143 [.ref a, .ref b, .int x2, .int x3, .ref (b + 8)] [] (mk I z) = (e_rV (e_E d 90 [.ref (b + 8), .int (e_n (-7)), .int (I a 0)] (mk I z)) (fun σ => e_L d 55 154 [.ref a, .ref b, .int x2, .int x3, .ref (b + 8)] [] σ) (e_H (e_L d 55) 55 151 [.ref a, .ref b, .int x2, .int x3, .ref (b + 8)])) := by
  rcases hb with rfl | rfl
  all_goals (rcases ha with rfl | rfl | rfl)
  all_goals exact e_L_to hd55 5 (by generalize e_L d 55 = K; generalize e_E d = E; rfl)
set_option maxRecDepth 20000 in
theorem B55_154 {d : Nat} {I : Nat → Nat → Int32} {z : e_Z} {a b : Nat} {x2 x3 : Int32} (hb : B2 b) (ha : M3 a) : e_L d 55 154 [.ref a, .ref b, .int x2, .int x3, .ref (b + 8)] [] (mk I z) = (e_rV (e_E d 90 [.ref (b + 8), .int (e_n (-8)), .int (I a 3)] (mk I z)) (fun σ => e_L d 55 165 [.ref a, .ref b, .int x2, .int x3, .ref (b + 8)] [] σ) (e_H (e_L d 55) 55 162 [.ref a, .ref b, .int x2, .int x3, .ref (b + 8)])) := by
  rcases hb with rfl | rfl
  all_goals (rcases ha with rfl | rfl | rfl)
  all_goals exact e_L_to hd55 5 (by generalize e_L d 55 = K; generalize e_E d = E; rfl)
set_option maxRecDepth 20000 in
theorem B55_165 {d : Nat} {I : Nat → Nat → Int32} {z : e_Z} {a b : Nat} {x2 x3 : Int32} (hb : B2 b) : e_L d 55 165 [.ref a, .ref b, .int x2, .int x3, .ref (b + 8)] [] (mk I z) = (e_rI (e_E d 91 [.ref (b + 8)] (mk I z)) (fun v σ => e_L d 55 170 [.ref a, .ref b, .int x2, .int x3, .ref (b + 8)] [.int v] σ) (e_H (e_L d 55) 55 167 [.ref a, .ref b, .int x2, .int x3, .ref (b + 8)])) := by
  rcases hb with rfl | rfl
  all_goals exact e_L_to hd55 2 (by generalize e_L d 55 = K; generalize e_E d = E; rfl)
set_option maxRecDepth 20000 in
theorem B55_170 {d : Nat} {I : Nat → Nat → Int32} {z : e_Z} {a b : Nat} {x2 x3 y0 : Int32}  : e_L d 55 170 [.ref a, .ref b, .int x2, .int x3, .ref (b + 8)] [.int y0] (mk I z) = (some (.inl (some (.int y0)), mk I z)) := e_L_to hd55 1 (by generalize e_L d 55 = K; generalize e_E d = E; rfl)
def hd56 : List Nat := [0, 8]
set_option maxRecDepth 20000 in
theorem B56_0 {d : Nat} {I : Nat → Nat → Int32} {z : e_Z} {a b : Nat} {x2 : Int32} (hb : B2 b) : e_L d 56 0 [.ref a, .ref b, .int x2] [] (mk I z) = (e_rI (e_E d 169 [.ref (b + 15), .int x2] (mk I z)) (fun v σ => e_L d 56 8 [.ref a, .ref b, .int x2] [.int v] σ) (e_H (e_L d 56) 56 5 [.ref a, .ref b, .int x2])) := by
  rcases hb with rfl | rfl
  all_goals exact e_L_to hd56 4 (by generalize e_L d 56 = K; generalize e_E d = E; rfl)
set_option maxRecDepth 20000 in
theorem B56_8 {d : Nat} {I : Nat → Nat → Int32} {z : e_Z} {a b : Nat} {x2 y0 : Int32} (ha : M3 a) : e_L d 56 8 [.ref a, .ref b, .int x2] [.int y0] (mk I z) = (if e_n 10 = 0 then none else (some (.inl (some (.int ((y0 * ((e_n 10) - (e_min (I a 3) (e_n 9)))) / (e_n 10)))), mk I z))) := by
  rcases ha with rfl | rfl | rfl
  all_goals exact e_L_to hd56 10 (by generalize e_L d 56 = K; generalize e_E d = E; rfl)
def hd57 : List Nat := [0, 6, 15, 26, 56, 64]
set_option maxRecDepth 20000 in
theorem B57_0 {d : Nat} {I : Nat → Nat → Int32} {z : e_Z} {a b : Nat} {x2 : Int32} (ha : M3 a) : e_L d 57 0 [.ref a, .ref b, .int x2, .null, .null] [] (mk I z) = (e_rI (e_E d 56 [.ref a, .ref b, .int x2] (mk I z)) (fun v σ => e_L d 57 6 [.ref a, .ref b, .int x2, .null, .null] [.int v] σ) (e_H (e_L d 57) 57 3 [.ref a, .ref b, .int x2, .null, .null])) := by
  rcases ha with rfl | rfl | rfl
  all_goals exact e_L_to hd57 4 (by generalize e_L d 57 = K; generalize e_E d = E; rfl)
set_option maxRecDepth 20000 in
theorem B57_6 {d : Nat} {I : Nat → Nat → Int32} {z : e_Z} {a b : Nat} {x2 y0 : Int32} (ha : M3 a) : e_L d 57 6 [.ref a, .ref b, .int x2, .null, .null] [.int y0] (mk I z) = (e_rI (e_E d 169 [.ref (a + 2), .int x2] (mk I z)) (fun v σ => e_L d 57 15 [.ref a, .ref b, .int x2, .int y0, .null] [.int v] σ) (e_H (e_L d 57) 57 12 [.ref a, .ref b, .int x2, .int y0, .null])) := by
  rcases ha with rfl | rfl | rfl
  all_goals exact e_L_to hd57 5 (by generalize e_L d 57 = K; generalize e_E d = E; rfl)
set_option maxRecDepth 20000 in
theorem B57_15 {d : Nat} {I : Nat → Nat → Int32} {z : e_Z} {a b : Nat} {x2 x3 y0 : Int32} (ha : M3 a) : e_L d 57 15 [.ref a, .ref b, .int x2, .int x3, .null] [.int y0] (mk I z) = (e_rI (e_E d 173 [.int x2] (mk I z)) (fun v σ => e_L d 57 26 [.ref a, .ref b, .int x2, .int x3, .int y0] [.int v, .int (I a 2), .ref a] σ) (e_H (e_L d 57) 57 23 [.ref a, .ref b, .int x2, .int x3, .int y0])) := by
  rcases ha with rfl | rfl | rfl
  all_goals exact e_L_to hd57 6 (by generalize e_L d 57 = K; generalize e_E d = E; rfl)
set_option maxRecDepth 20000 in
theorem B57_26 {d : Nat} {I : Nat → Nat → Int32} {z : e_Z} {a b : Nat} {x2 x3 x4 y1 y2 : Int32} (ha : M3 a) : e_L d 57 26 [.ref a, .ref b, .int x2, .int x3, .int x4] [.int y2, .int y1, .ref a] (mk I z) = (e_rI (e_E d 169 [.ref (a + 4), .int x4] (mk (e_u (e_u I a 2 (y1 ||| y2)) a 3 (((e_u I a 2 (y1 ||| y2)) a 3) + (e_n 1))) z)) (fun v σ => e_L d 57 56 [.ref a, .ref b, .int x2, .int x3, .int x4] [.int v, .int (e_n 0), .int x4, .ref (a + 4)] σ) (e_H (e_L d 57) 57 53 [.ref a, .ref b, .int x2, .int x3, .int x4])) := by
  rcases ha with rfl | rfl | rfl
  all_goals exact e_L_to hd57 16 (by generalize e_L d 57 = K; generalize e_E d = E; rfl)
set_option maxRecDepth 20000 in
theorem B57_56 {d : Nat} {I : Nat → Nat → Int32} {z : e_Z} {a b : Nat} {x2 x3 x4 y1 y2 y3 : Int32}  : e_L d 57 56 [.ref a, .ref b, .int x2, .int x3, .int x4] [.int y3, .int y2, .int y1, .ref (a + 4)] (mk I z) = (e_rV (e_E d 170 [.ref (a + 4), .int y1, .int (e_max y2 (y3 - x3))] (mk I z)) (fun σ => e_L d 57 64 [.ref a, .ref b, .int x2, .int x3, .int x4] [] σ) (e_H (e_L d 57) 57 61 [.ref a, .ref b, .int x2, .int x3, .int x4])) := e_L_to hd57 4 (by generalize e_L d 57 = K; generalize e_E d = E; rfl)
set_option maxRecDepth 20000 in
theorem B57_64 {d : Nat} {I : Nat → Nat → Int32} {z : e_Z} {a b : Nat} {x2 x3 x4 : Int32}  : e_L d 57 64 [.ref a, .ref b, .int x2, .int x3, .int x4] [] (mk I z) = (some (.inl (some (.int x3)), mk I z)) := e_L_to hd57 2 (by generalize e_L d 57 = K; generalize e_E d = E; rfl)
def hd58 : List Nat := [0, 4, 21]
set_option maxRecDepth 20000 in
theorem B58_0 {d : Nat} {I : Nat → Nat → Int32} {z : e_Z} {a b : Nat}  : e_L d 58 0 [.ref a, .ref b, .null, .null] [] (mk I z) = (e_L d 58 4 [.ref a, .ref b, .int (e_n 0), .int (e_n 0)] [] (mk I z)) := e_L_to hd58 4 (by generalize e_L d 58 = K; generalize e_E d = E; rfl)
set_option maxRecDepth 20000 in
theorem B58_4 {d : Nat} {I : Nat → Nat → Int32} {z : e_Z} {a b : Nat} {x2 x3 : Int32} (hb : B2 b) (ha : M3 a) : e_L d 58 4 [.ref a, .ref b, .int x2, .int x3] [] (mk I z) = (if e_cc .ge x3 (I b 2) = true then (some (.inl (some (.int x2)), mk I z)) else (e_rI (e_E d 169 [.ref (a + 4), .int x3] (mk I z)) (fun v σ => e_L d 58 21 [.ref a, .ref b, .int x2, .int x3] [.int v, .int x2] σ) (e_H (e_L d 58) 58 18 [.ref a, .ref b, .int x2, .int x3]))) := by
  rcases hb with rfl | rfl
  all_goals (rcases ha with rfl | rfl | rfl)
  all_goals exact e_L_to hd58 9 (by generalize e_L d 58 = K; generalize e_E d = E; rfl)
set_option maxRecDepth 20000 in
theorem B58_21 {d : Nat} {I : Nat → Nat → Int32} {z : e_Z} {a b : Nat} {x2 x3 y0 y1 : Int32}  : e_L d 58 21 [.ref a, .ref b, .int x2, .int x3] [.int y1, .int y0] (mk I z) = (e_L d 58 4 [.ref a, .ref b, .int (y0 + y1), .int (x3 + e_n 1)] [] (mk I z)) := e_L_to hd58 4 (by generalize e_L d 58 = K; generalize e_E d = E; rfl)
def hd60 : List Nat := [0, 9, 14, 21, 34, 63, 69]
set_option maxRecDepth 20000 in
theorem B60_0 {d : Nat} {I : Nat → Nat → Int32} {z : e_Z} {x2 : Int32} {b : Nat}  : e_L d 60 0 [.ref 44, .ref 2, .int x2, .ref b, .null] [] (mk I z) = (e_rV (e_E d 102 [.ref 45, .ref 2, .int x2] (mk I z)) (fun σ => e_L d 60 9 [.ref 44, .ref 2, .int x2, .ref b, .null] [] σ) (e_H (e_L d 60) 60 6 [.ref 44, .ref 2, .int x2, .ref b, .null])) := e_L_to hd60 5 (by generalize e_L d 60 = K; generalize e_E d = E; rfl)
set_option maxRecDepth 20000 in
theorem B60_9 {d : Nat} {I : Nat → Nat → Int32} {z : e_Z} {x2 : Int32} {b : Nat}  : e_L d 60 9 [.ref 44, .ref 2, .int x2, .ref b, .null] [] (mk I z) = (e_L d 60 14 [.ref 44, .ref 2, .int x2, .ref b, .null] [] (ms I z.1 (e_u (fr z.2.1) 44 1 b) z.2.2.1 z.2.2.2)) := e_L_to hd60 3 (by generalize e_L d 60 = K; generalize e_E d = E; rfl)
set_option maxRecDepth 20000 in
theorem B60_14 {d : Nat} {I : Nat → Nat → Int32} {z : e_Z} {x2 : Int32} {b : Nat}  : e_L d 60 14 [.ref 44, .ref 2, .int x2, .ref b, .null] [] (mk I z) = (e_rV (e_E d 1 [.ref (bd z.2.1.2.1)] (mk I z)) (fun σ => e_L d 60 21 [.ref 44, .ref 2, .int x2, .ref b, .null] [] σ) (e_H (e_L d 60) 60 18 [.ref 44, .ref 2, .int x2, .ref b, .null])) := by
  rcases z with ⟨J, ⟨s, _|_, fb, tt⟩, cs, X⟩
  all_goals exact e_L_to hd60 3 (by generalize e_L d 60 = K; generalize e_E d = E; rfl)
set_option maxRecDepth 20000 in
theorem B60_21 {d : Nat} {I : Nat → Nat → Int32} {z : e_Z} {x2 : Int32} {b : Nat}  : e_L d 60 21 [.ref 44, .ref 2, .int x2, .ref b, .null] [] (mk I z) = (e_L d 60 34 [.ref 44, .ref 2, .int x2, .ref b, .int (e_n 0)] [] (mk (e_u (e_u I 44 2 (e_n 0)) 44 3 (e_n (-1))) z)) := e_L_to hd60 8 (by generalize e_L d 60 = K; generalize e_E d = E; rfl)
set_option maxRecDepth 20000 in
theorem B60_34 {d : Nat} {I : Nat → Nat → Int32} {z : e_Z} {x2 x4 : Int32} {b : Nat}  : e_L d 60 34 [.ref 44, .ref 2, .int x2, .ref b, .int x4] [] (mk I z) = (if e_cc .ge x4 (e_n 701) = true then (e_L d 60 69 [.ref 44, .ref 2, .int x2, .ref b, .int x4] [] (mk I z)) else (if e_cc .ne (I 44 2) 0 = true then (e_L d 60 69 [.ref 44, .ref 2, .int x2, .ref b, .int x4] [] (mk I z)) else (if e_cc .eq (I 45 7) 0 = true then (e_L d 60 69 [.ref 44, .ref 2, .int x2, .ref b, .int x4] [] (mk I z)) else (e_rV (e_E d 62 [.ref 44] (mk I z)) (fun σ => e_L d 60 63 [.ref 44, .ref 2, .int x2, .ref b, .int x4] [] σ) (e_H (e_L d 60) 60 60 [.ref 44, .ref 2, .int x2, .ref b, .int x4]))))) := e_L_to hd60 12 (by generalize e_L d 60 = K; generalize e_E d = E; rfl)
set_option maxRecDepth 20000 in
theorem B60_63 {d : Nat} {I : Nat → Nat → Int32} {z : e_Z} {x2 x4 : Int32} {b : Nat}  : e_L d 60 63 [.ref 44, .ref 2, .int x2, .ref b, .int x4] [] (mk I z) = (e_L d 60 34 [.ref 44, .ref 2, .int x2, .ref b, .int (x4 + e_n 1)] [] (mk I z)) := e_L_to hd60 2 (by generalize e_L d 60 = K; generalize e_E d = E; rfl)
set_option maxRecDepth 20000 in
theorem B60_69 {d : Nat} {I : Nat → Nat → Int32} {z : e_Z} {x2 x4 : Int32} {b : Nat}  : e_L d 60 69 [.ref 44, .ref 2, .int x2, .ref b, .int x4] [] (mk I z) = (some (.inl (some (.int (I 44 2))), mk I z)) := e_L_to hd60 3 (by generalize e_L d 60 = K; generalize e_E d = E; rfl)
def hd61 : List Nat := [0, 23]
set_option maxRecDepth 20000 in
theorem B61_0 {d : Nat} {I : Nat → Nat → Int32} {z : e_Z} {x1 : Int32}  : e_L d 61 0 [.ref 44, .int x1] [] (mk I z) = (if e_cc .ne (I 44 2) 0 = true then (e_L d 61 23 [.ref 44, .int x1] [] (mk I z)) else (e_L d 61 23 [.ref 44, .int x1] [] (mk (e_u (e_u I 44 2 x1) 44 3 ((e_u I 44 2 x1) 45 8)) z))) := e_L_to hd61 11 (by generalize e_L d 61 = K; generalize e_E d = E; rfl)
set_option maxRecDepth 20000 in
theorem B61_23 {d : Nat} {I : Nat → Nat → Int32} {z : e_Z} {x1 : Int32}  : e_L d 61 23 [.ref 44, .int x1] [] (mk I z) = (some (.inl none, mk I z)) := e_L_to hd61 1 (by generalize e_L d 61 = K; generalize e_E d = E; rfl)
def hd62 : List Nat := [0, 7, 17, 18, 25, 26, 76, 80, 83, 89, 92, 97, 100, 104, 107, 111, 114, 118, 121, 126, 129, 134, 137, 141, 144, 149, 155]
set_option maxRecDepth 20000 in
theorem B62_0 {d : Nat} {I : Nat → Nat → Int32} {z : e_Z}  : e_L d 62 0 [.ref 44, .null] [] (mk I z) = (e_rF (e_E d 114 [.ref 45] (mk I z)) (fun v σ => e_L d 62 7 [.ref 44, .null] [.ref v] σ) (e_H (e_L d 62) 62 4 [.ref 44, .null])) := e_L_to hd62 3 (by generalize e_L d 62 = K; generalize e_E d = E; rfl)
set_option maxRecDepth 20000 in
theorem B62_7 {d : Nat} {I : Nat → Nat → Int32} {z : e_Z} {s0 : Nat}  : e_L d 62 7 [.ref 44, .null] [.ref s0] (mk I z) = (if decide (¬ s0 = 0) = true then (e_L d 62 18 [.ref 44, .ref s0] [] (mk I z)) else (e_rV (e_E d 61 [.ref 44, .int (e_n 1)] (mk I z)) (fun σ => e_L d 62 17 [.ref 44, .ref s0] [] σ) (e_H (e_L d 62) 62 14 [.ref 44, .ref s0]))) := e_L_to hd62 6 (by generalize e_L d 62 = K; generalize e_E d = E; rfl)
set_option maxRecDepth 20000 in
theorem B62_17 {d : Nat} {I : Nat → Nat → Int32} {z : e_Z} {s0 : Nat}  : e_L d 62 17 [.ref 44, .ref s0] [] (mk I z) = (some (.inl none, mk I z)) := e_L_to hd62 1 (by generalize e_L d 62 = K; generalize e_E d = E; rfl)
set_option maxRecDepth 20000 in
theorem B62_18 {d : Nat} {I : Nat → Nat → Int32} {z : e_Z} {s0 : Nat}  : e_L d 62 18 [.ref 44, .ref s0] [] (mk I z) = (e_ord s0 (fun v3 => (e_L d 62 25 [.ref 44, .ref s0] [.int v3, .ref 1000001] (mk I z)))) := e_L_to hd62 3 (by generalize e_L d 62 = K; generalize e_E d = E; rfl)
set_option maxRecDepth 20000 in
theorem B62_25 {d : Nat} {I : Nat → Nat → Int32} {z : e_Z} {s0 : Nat} {y1 : Int32}  : e_L d 62 25 [.ref 44, .ref s0] [.int y1, .ref 1000001] (mk I z) = (ck y1 e_sm.length (e_L d 62 26 [.ref 44, .ref s0] [.int (e_sm.getD y1.toNatClampNeg 0)] (mk I z))) := e_L_to hd62 1 (by generalize e_L d 62 = K; generalize e_E d = E; rfl)
set_option maxRecDepth 20000 in
theorem B62_26 {d : Nat} {I : Nat → Nat → Int32} {z : e_Z} {s0 : Nat} {y0 : Int32}  : e_L d 62 26 [.ref 44, .ref s0] [.int y0] (mk I z) = (e_L d 62 (e_sel [(1, 76), (2, 83), (3, 92), (4, 100), (5, 107), (6, 114), (7, 121), (8, 129), (9, 137)] 144 y0) [.ref 44, .ref s0] [] (mk I z)) := e_L_to hd62 0 (by generalize e_L d 62 = K; generalize e_E d = E; rfl)
set_option maxRecDepth 20000 in
theorem B62_76 {d : Nat} {I : Nat → Nat → Int32} {z : e_Z} {s0 : Nat}  : e_L d 62 76 [.ref 44, .ref s0] [] (mk I z) = (e_rV (e_E d 68 [.ref 44] (mk I z)) (fun σ => e_L d 62 80 [.ref 44, .ref s0] [] σ) (e_H (e_L d 62) 62 77 [.ref 44, .ref s0])) := e_L_to hd62 2 (by generalize e_L d 62 = K; generalize e_E d = E; rfl)
set_option maxRecDepth 20000 in
theorem B62_80 {d : Nat} {I : Nat → Nat → Int32} {z : e_Z} {s0 : Nat}  : e_L d 62 80 [.ref 44, .ref s0] [] (mk I z) = (e_L d 62 149 [.ref 44, .ref s0] [] (mk I z)) := e_L_to hd62 1 (by generalize e_L d 62 = K; generalize e_E d = E; rfl)
set_option maxRecDepth 20000 in
theorem B62_83 {d : Nat} {I : Nat → Nat → Int32} {z : e_Z} {s0 : Nat}  : e_L d 62 83 [.ref 44, .ref s0] [] (mk I z) = (e_rV (e_E d 69 [.ref 44, .int (e_n 9)] (mk I z)) (fun σ => e_L d 62 89 [.ref 44, .ref s0] [] σ) (e_H (e_L d 62) 62 86 [.ref 44, .ref s0])) := e_L_to hd62 3 (by generalize e_L d 62 = K; generalize e_E d = E; rfl)
set_option maxRecDepth 20000 in
theorem B62_89 {d : Nat} {I : Nat → Nat → Int32} {z : e_Z} {s0 : Nat}  : e_L d 62 89 [.ref 44, .ref s0] [] (mk I z) = (e_L d 62 149 [.ref 44, .ref s0] [] (mk I z)) := e_L_to hd62 1 (by generalize e_L d 62 = K; generalize e_E d = E; rfl)
set_option maxRecDepth 20000 in
theorem B62_92 {d : Nat} {I : Nat → Nat → Int32} {z : e_Z} {s0 : Nat}  : e_L d 62 92 [.ref 44, .ref s0] [] (mk I z) = (e_rV (e_E d 69 [.ref 44, .int (e_n (-1))] (mk I z)) (fun σ => e_L d 62 97 [.ref 44, .ref s0] [] σ) (e_H (e_L d 62) 62 94 [.ref 44, .ref s0])) := e_L_to hd62 3 (by generalize e_L d 62 = K; generalize e_E d = E; rfl)
set_option maxRecDepth 20000 in
theorem B62_97 {d : Nat} {I : Nat → Nat → Int32} {z : e_Z} {s0 : Nat}  : e_L d 62 97 [.ref 44, .ref s0] [] (mk I z) = (e_L d 62 149 [.ref 44, .ref s0] [] (mk I z)) := e_L_to hd62 1 (by generalize e_L d 62 = K; generalize e_E d = E; rfl)
set_option maxRecDepth 20000 in
theorem B62_100 {d : Nat} {I : Nat → Nat → Int32} {z : e_Z} {s0 : Nat}  : e_L d 62 100 [.ref 44, .ref s0] [] (mk I z) = (e_rV (e_E d 70 [.ref 44] (mk I z)) (fun σ => e_L d 62 104 [.ref 44, .ref s0] [] σ) (e_H (e_L d 62) 62 101 [.ref 44, .ref s0])) := e_L_to hd62 2 (by generalize e_L d 62 = K; generalize e_E d = E; rfl)
set_option maxRecDepth 20000 in
theorem B62_104 {d : Nat} {I : Nat → Nat → Int32} {z : e_Z} {s0 : Nat}  : e_L d 62 104 [.ref 44, .ref s0] [] (mk I z) = (e_L d 62 149 [.ref 44, .ref s0] [] (mk I z)) := e_L_to hd62 1 (by generalize e_L d 62 = K; generalize e_E d = E; rfl)
set_option maxRecDepth 20000 in
theorem B62_107 {d : Nat} {I : Nat → Nat → Int32} {z : e_Z} {s0 : Nat}  : e_L d 62 107 [.ref 44, .ref s0] [] (mk I z) = (e_rV (e_E d 71 [.ref 44] (mk I z)) (fun σ => e_L d 62 111 [.ref 44, .ref s0] [] σ) (e_H (e_L d 62) 62 108 [.ref 44, .ref s0])) := e_L_to hd62 2 (by generalize e_L d 62 = K; generalize e_E d = E; rfl)
set_option maxRecDepth 20000 in
theorem B62_111 {d : Nat} {I : Nat → Nat → Int32} {z : e_Z} {s0 : Nat}  : e_L d 62 111 [.ref 44, .ref s0] [] (mk I z) = (e_L d 62 149 [.ref 44, .ref s0] [] (mk I z)) := e_L_to hd62 1 (by generalize e_L d 62 = K; generalize e_E d = E; rfl)
set_option maxRecDepth 20000 in
theorem B62_114 {d : Nat} {I : Nat → Nat → Int32} {z : e_Z} {s0 : Nat}  : e_L d 62 114 [.ref 44, .ref s0] [] (mk I z) = (e_rV (e_E d 72 [.ref 44] (mk I z)) (fun σ => e_L d 62 118 [.ref 44, .ref s0] [] σ) (e_H (e_L d 62) 62 115 [.ref 44, .ref s0])) := e_L_to hd62 2 (by generalize e_L d 62 = K; generalize e_E d = E; rfl)
set_option maxRecDepth 20000 in
theorem B62_118 {d : Nat} {I : Nat → Nat → Int32} {z : e_Z} {s0 : Nat}  : e_L d 62 118 [.ref 44, .ref s0] [] (mk I z) = (e_L d 62 149 [.ref 44, .ref s0] [] (mk I z)) := e_L_to hd62 1 (by generalize e_L d 62 = K; generalize e_E d = E; rfl)
set_option maxRecDepth 20000 in
theorem B62_121 {d : Nat} {I : Nat → Nat → Int32} {z : e_Z} {s0 : Nat}  : e_L d 62 121 [.ref 44, .ref s0] [] (mk I z) = (e_rV (e_E d 73 [.ref 44, .int (e_n 1)] (mk I z)) (fun σ => e_L d 62 126 [.ref 44, .ref s0] [] σ) (e_H (e_L d 62) 62 123 [.ref 44, .ref s0])) := e_L_to hd62 3 (by generalize e_L d 62 = K; generalize e_E d = E; rfl)
set_option maxRecDepth 20000 in
theorem B62_126 {d : Nat} {I : Nat → Nat → Int32} {z : e_Z} {s0 : Nat}  : e_L d 62 126 [.ref 44, .ref s0] [] (mk I z) = (e_L d 62 149 [.ref 44, .ref s0] [] (mk I z)) := e_L_to hd62 1 (by generalize e_L d 62 = K; generalize e_E d = E; rfl)
set_option maxRecDepth 20000 in
theorem B62_129 {d : Nat} {I : Nat → Nat → Int32} {z : e_Z} {s0 : Nat}  : e_L d 62 129 [.ref 44, .ref s0] [] (mk I z) = (e_rV (e_E d 73 [.ref 44, .int (e_n 0)] (mk I z)) (fun σ => e_L d 62 134 [.ref 44, .ref s0] [] σ) (e_H (e_L d 62) 62 131 [.ref 44, .ref s0])) := e_L_to hd62 3 (by generalize e_L d 62 = K; generalize e_E d = E; rfl)
set_option maxRecDepth 20000 in
theorem B62_134 {d : Nat} {I : Nat → Nat → Int32} {z : e_Z} {s0 : Nat}  : e_L d 62 134 [.ref 44, .ref s0] [] (mk I z) = (e_L d 62 149 [.ref 44, .ref s0] [] (mk I z)) := e_L_to hd62 1 (by generalize e_L d 62 = K; generalize e_E d = E; rfl)
set_option maxRecDepth 20000 in
theorem B62_137 {d : Nat} {I : Nat → Nat → Int32} {z : e_Z} {s0 : Nat}  : e_L d 62 137 [.ref 44, .ref s0] [] (mk I z) = (e_rV (e_E d 74 [.ref 44] (mk I z)) (fun σ => e_L d 62 141 [.ref 44, .ref s0] [] σ) (e_H (e_L d 62) 62 138 [.ref 44, .ref s0])) := e_L_to hd62 2 (by generalize e_L d 62 = K; generalize e_E d = E; rfl)
set_option maxRecDepth 20000 in
theorem B62_141 {d : Nat} {I : Nat → Nat → Int32} {z : e_Z} {s0 : Nat}  : e_L d 62 141 [.ref 44, .ref s0] [] (mk I z) = (e_L d 62 149 [.ref 44, .ref s0] [] (mk I z)) := e_L_to hd62 1 (by generalize e_L d 62 = K; generalize e_E d = E; rfl)
set_option maxRecDepth 20000 in
theorem B62_144 {d : Nat} {I : Nat → Nat → Int32} {z : e_Z} {s0 : Nat}  : e_L d 62 144 [.ref 44, .ref s0] [] (mk I z) = (e_rV (e_E d 61 [.ref 44, .int (e_n 1)] (mk I z)) (fun σ => e_L d 62 149 [.ref 44, .ref s0] [] σ) (e_H (e_L d 62) 62 146 [.ref 44, .ref s0])) := e_L_to hd62 3 (by generalize e_L d 62 = K; generalize e_E d = E; rfl)
set_option maxRecDepth 20000 in
theorem B62_149 {d : Nat} {I : Nat → Nat → Int32} {z : e_Z} {s0 : Nat}  : e_L d 62 149 [.ref 44, .ref s0] [] (mk I z) = (e_rV (e_E d 64 [.ref 44, .int (e_n 59)] (mk I z)) (fun σ => e_L d 62 155 [.ref 44, .ref s0] [] σ) (e_H (e_L d 62) 62 152 [.ref 44, .ref s0])) := e_L_to hd62 3 (by generalize e_L d 62 = K; generalize e_E d = E; rfl)
set_option maxRecDepth 20000 in
theorem B62_155 {d : Nat} {I : Nat → Nat → Int32} {z : e_Z} {s0 : Nat}  : e_L d 62 155 [.ref 44, .ref s0] [] (mk I z) = (some (.inl none, mk I z)) := e_L_to hd62 1 (by generalize e_L d 62 = K; generalize e_E d = E; rfl)
def hd63 : List Nat := [0, 10, 20]
set_option maxRecDepth 20000 in
theorem B63_0 {d : Nat} {I : Nat → Nat → Int32} {z : e_Z} {x1 x2 : Int32}  : e_L d 63 0 [.ref 44, .int x1, .int x2] [] (mk I z) = (if e_cc .lt x1 x2 = true then (e_rV (e_E d 112 [.ref 45] (mk I z)) (fun σ => e_L d 63 20 [.ref 44, .int x1, .int x2] [] σ) (e_H (e_L d 63) 63 17 [.ref 44, .int x1, .int x2])) else (e_rV (e_E d 61 [.ref 44, .int (e_n 2)] (mk I z)) (fun σ => e_L d 63 10 [.ref 44, .int x1, .int x2] [] σ) (e_H (e_L d 63) 63 7 [.ref 44, .int x1, .int x2]))) := e_L_to hd63 6 (by generalize e_L d 63 = K; generalize e_E d = E; rfl)
set_option maxRecDepth 20000 in
theorem B63_10 {d : Nat} {I : Nat → Nat → Int32} {z : e_Z} {x1 x2 : Int32}  : e_L d 63 10 [.ref 44, .int x1, .int x2] [] (mk I z) = (e_L d 63 20 [.ref 44, .int x1, .int x2] [] (mk I z)) := e_L_to hd63 1 (by generalize e_L d 63 = K; generalize e_E d = E; rfl)
set_option maxRecDepth 20000 in
theorem B63_20 {d : Nat} {I : Nat → Nat → Int32} {z : e_Z} {x1 x2 : Int32}  : e_L d 63 20 [.ref 44, .int x1, .int x2] [] (mk I z) = (some (.inl none, mk I z)) := e_L_to hd63 1 (by generalize e_L d 63 = K; generalize e_E d = E; rfl)
def hd64 : List Nat := [0, 15, 25, 33]
set_option maxRecDepth 20000 in
theorem B64_0 {d : Nat} {I : Nat → Nat → Int32} {z : e_Z} {x1 : Int32}  : e_L d 64 0 [.ref 44, .int x1] [] (mk I z) = (if e_cc .ne (I 44 2) 0 = true then (e_L d 64 33 [.ref 44, .int x1] [] (mk I z)) else (e_rI (e_E d 113 [.ref 45, .int x1] (mk I z)) (fun v σ => e_L d 64 15 [.ref 44, .int x1] [.int v] σ) (e_H (e_L d 64) 64 12 [.ref 44, .int x1]))) := e_L_to hd64 7 (by generalize e_L d 64 = K; generalize e_E d = E; rfl)
set_option maxRecDepth 20000 in
theorem B64_15 {d : Nat} {I : Nat → Nat → Int32} {z : e_Z} {x1 y0 : Int32}  : e_L d 64 15 [.ref 44, .int x1] [.int y0] (mk I z) = (if e_cc .eq y0 0 = true then (e_rV (e_E d 61 [.ref 44, .int (e_n 1)] (mk I z)) (fun σ => e_L d 64 33 [.ref 44, .int x1] [] σ) (e_H (e_L d 64) 64 30 [.ref 44, .int x1])) else (e_rV (e_E d 112 [.ref 45] (mk I z)) (fun σ => e_L d 64 25 [.ref 44, .int x1] [] σ) (e_H (e_L d 64) 64 22 [.ref 44, .int x1]))) := e_L_to hd64 4 (by generalize e_L d 64 = K; generalize e_E d = E; rfl)
set_option maxRecDepth 20000 in
theorem B64_25 {d : Nat} {I : Nat → Nat → Int32} {z : e_Z} {x1 : Int32}  : e_L d 64 25 [.ref 44, .int x1] [] (mk I z) = (e_L d 64 33 [.ref 44, .int x1] [] (mk I z)) := e_L_to hd64 1 (by generalize e_L d 64 = K; generalize e_E d = E; rfl)
set_option maxRecDepth 20000 in
theorem B64_33 {d : Nat} {I : Nat → Nat → Int32} {z : e_Z} {x1 : Int32}  : e_L d 64 33 [.ref 44, .int x1] [] (mk I z) = (some (.inl none, mk I z)) := e_L_to hd64 1 (by generalize e_L d 64 = K; generalize e_E d = E; rfl)
def hd65 : List Nat := [0, 33, 46, 51, 55]
set_option maxRecDepth 20000 in
theorem B65_0 {d : Nat} {I : Nat → Nat → Int32} {z : e_Z} {x1 : Int32}  : e_L d 65 0 [.ref 44, .int x1, .null] [] (mk I z) = (if e_cc .eq (I 44 2) 0 = true then (if e_cc .eq (I 45 7) (e_n 3) = true then (if e_cc .eq (I 45 9) (e_n (-1)) = true then (e_L d 65 46 [.ref 44, .int x1, .int (I 45 9)] [] (mk I z)) else (if e_cc .le (I 45 9) x1 = true then (e_L d 65 51 [.ref 44, .int x1, .int (I 45 9)] [] (mk I z)) else (e_L d 65 46 [.ref 44, .int x1, .int (I 45 9)] [] (mk I z)))) else (e_rV (e_E d 61 [.ref 44, .int (e_n 1)] (mk I z)) (fun σ => e_L d 65 33 [.ref 44, .int x1, .int (I 45 9)] [] σ) (e_H (e_L d 65) 65 30 [.ref 44, .int x1, .int (I 45 9)]))) else (some (.inl (some (.int (e_n 0))), mk I z))) := e_L_to hd65 18 (by generalize e_L d 65 = K; generalize e_E d = E; rfl)
set_option maxRecDepth 20000 in
theorem B65_33 {d : Nat} {I : Nat → Nat → Int32} {z : e_Z} {x1 x2 : Int32}  : e_L d 65 33 [.ref 44, .int x1, .int x2] [] (mk I z) = (e_L d 65 51 [.ref 44, .int x1, .int x2] [] (mk I z)) := e_L_to hd65 1 (by generalize e_L d 65 = K; generalize e_E d = E; rfl)
set_option maxRecDepth 20000 in
theorem B65_46 {d : Nat} {I : Nat → Nat → Int32} {z : e_Z} {x1 x2 : Int32}  : e_L d 65 46 [.ref 44, .int x1, .int x2] [] (mk I z) = (e_rV (e_E d 61 [.ref 44, .int (e_n 2)] (mk I z)) (fun σ => e_L d 65 51 [.ref 44, .int x1, .int x2] [] σ) (e_H (e_L d 65) 65 48 [.ref 44, .int x1, .int x2])) := e_L_to hd65 3 (by generalize e_L d 65 = K; generalize e_E d = E; rfl)
set_option maxRecDepth 20000 in
theorem B65_51 {d : Nat} {I : Nat → Nat → Int32} {z : e_Z} {x1 x2 : Int32}  : e_L d 65 51 [.ref 44, .int x1, .int x2] [] (mk I z) = (e_rV (e_E d 67 [.ref 44] (mk I z)) (fun σ => e_L d 65 55 [.ref 44, .int x1, .int x2] [] σ) (e_H (e_L d 65) 65 52 [.ref 44, .int x1, .int x2])) := e_L_to hd65 2 (by generalize e_L d 65 = K; generalize e_E d = E; rfl)
set_option maxRecDepth 20000 in
theorem B65_55 {d : Nat} {I : Nat → Nat → Int32} {z : e_Z} {x1 x2 : Int32}  : e_L d 65 55 [.ref 44, .int x1, .int x2] [] (mk I z) = (some (.inl (some (.int x2)), mk I z)) := e_L_to hd65 2 (by generalize e_L d 65 = K; generalize e_E d = E; rfl)
def hd66 : List Nat := [0, 33, 46, 59, 67, 75, 79]
set_option maxRecDepth 20000 in
theorem B66_0 {d : Nat} {I : Nat → Nat → Int32} {z : e_Z} {x1 x2 : Int32}  : e_L d 66 0 [.ref 44, .int x1, .int x2, .null] [] (mk I z) = (if e_cc .eq (I 44 2) 0 = true then (if e_cc .eq (I 45 7) (e_n 3) = true then (if e_cc .ne (I 45 9) (e_n (-1)) = true then (if e_cc .lt (I 45 9) x1 = true then (e_rI (e_E d 174 [.int x2, .int (I 45 9)] (mk I z)) (fun v σ => e_L d 66 67 [.ref 44, .int x1, .int x2, .int (I 45 9)] [.int v] σ) (e_H (e_L d 66) 66 64 [.ref 44, .int x1, .int x2, .int (I 45 9)])) else (e_rV (e_E d 61 [.ref 44, .int (e_n 3)] (mk I z)) (fun σ => e_L d 66 59 [.ref 44, .int x1, .int x2, .int (I 45 9)] [] σ) (e_H (e_L d 66) 66 56 [.ref 44, .int x1, .int x2, .int (I 45 9)]))) else (e_rV (e_E d 61 [.ref 44, .int (e_n 2)] (mk I z)) (fun σ => e_L d 66 46 [.ref 44, .int x1, .int x2, .int (I 45 9)] [] σ) (e_H (e_L d 66) 66 43 [.ref 44, .int x1, .int x2, .int (I 45 9)]))) else (e_rV (e_E d 61 [.ref 44, .int (e_n 1)] (mk I z)) (fun σ => e_L d 66 33 [.ref 44, .int x1, .int x2, .int (I 45 9)] [] σ) (e_H (e_L d 66) 66 30 [.ref 44, .int x1, .int x2, .int (I 45 9)]))) else (some (.inl (some (.int (e_n 0))), mk I z))) := e_L_to hd66 21 (by generalize e_L d 66 = K; generalize e_E d = E; rfl)
set_option maxRecDepth 20000 in
theorem B66_33 {d : Nat} {I : Nat → Nat → Int32} {z : e_Z} {x1 x2 x3 : Int32}  : e_L d 66 33 [.ref 44, .int x1, .int x2, .int x3] [] (mk I z) = (e_L d 66 75 [.ref 44, .int x1, .int x2, .int x3] [] (mk I z)) := e_L_to hd66 1 (by generalize e_L d 66 = K; generalize e_E d = E; rfl)
set_option maxRecDepth 20000 in
theorem B66_46 {d : Nat} {I : Nat → Nat → Int32} {z : e_Z} {x1 x2 x3 : Int32}  : e_L d 66 46 [.ref 44, .int x1, .int x2, .int x3] [] (mk I z) = (e_L d 66 75 [.ref 44, .int x1, .int x2, .int x3] [] (mk I z)) := e_L_to hd66 1 (by generalize e_L d 66 = K; generalize e_E d = E; rfl)
set_option maxRecDepth 20000 in
theorem B66_59 {d : Nat} {I : Nat → Nat → Int32} {z : e_Z} {x1 x2 x3 : Int32}  : e_L d 66 59 [.ref 44, .int x1, .int x2, .int x3] [] (mk I z) = (e_L d 66 75 [.ref 44, .int x1, .int x2, .int x3] [] (mk I z)) := e_L_to hd66 1 (by generalize e_L d 66 = K; generalize e_E d = E; rfl)
set_option maxRecDepth 20000 in
theorem B66_67 {d : Nat} {I : Nat → Nat → Int32} {z : e_Z} {x1 x2 x3 y0 : Int32}  : e_L d 66 67 [.ref 44, .int x1, .int x2, .int x3] [.int y0] (mk I z) = (if e_cc .eq y0 0 = true then (e_L d 66 75 [.ref 44, .int x1, .int x2, .int x3] [] (mk I z)) else (e_rV (e_E d 61 [.ref 44, .int (e_n 4)] (mk I z)) (fun σ => e_L d 66 75 [.ref 44, .int x1, .int x2, .int x3] [] σ) (e_H (e_L d 66) 66 72 [.ref 44, .int x1, .int x2, .int x3]))) := e_L_to hd66 4 (by generalize e_L d 66 = K; generalize e_E d = E; rfl)
set_option maxRecDepth 20000 in
theorem B66_75 {d : Nat} {I : Nat → Nat → Int32} {z : e_Z} {x1 x2 x3 : Int32}  : e_L d 66 75 [.ref 44, .int x1, .int x2, .int x3] [] (mk I z) = (e_rV (e_E d 67 [.ref 44] (mk I z)) (fun σ => e_L d 66 79 [.ref 44, .int x1, .int x2, .int x3] [] σ) (e_H (e_L d 66) 66 76 [.ref 44, .int x1, .int x2, .int x3])) := e_L_to hd66 2 (by generalize e_L d 66 = K; generalize e_E d = E; rfl)
set_option maxRecDepth 20000 in
theorem B66_79 {d : Nat} {I : Nat → Nat → Int32} {z : e_Z} {x1 x2 x3 : Int32}  : e_L d 66 79 [.ref 44, .int x1, .int x2, .int x3] [] (mk I z) = (some (.inl (some (.int x3)), mk I z)) := e_L_to hd66 2 (by generalize e_L d 66 = K; generalize e_E d = E; rfl)
def hd67 : List Nat := [0, 14]
set_option maxRecDepth 20000 in
theorem B67_0 {d : Nat} {I : Nat → Nat → Int32} {z : e_Z}  : e_L d 67 0 [.ref 44] [] (mk I z) = (if e_cc .ne (I 44 2) 0 = true then (e_L d 67 14 [.ref 44] [] (mk I z)) else (e_rV (e_E d 112 [.ref 45] (mk I z)) (fun σ => e_L d 67 14 [.ref 44] [] σ) (e_H (e_L d 67) 67 11 [.ref 44]))) := e_L_to hd67 6 (by generalize e_L d 67 = K; generalize e_E d = E; rfl)
set_option maxRecDepth 20000 in
theorem B67_14 {d : Nat} {I : Nat → Nat → Int32} {z : e_Z}  : e_L d 67 14 [.ref 44] [] (mk I z) = (some (.inl none, mk I z)) := e_L_to hd67 1 (by generalize e_L d 67 = K; generalize e_E d = E; rfl)
def hd68 : List Nat := [0, 12, 19, 35]
set_option maxRecDepth 20000 in
theorem B68_0 {d : Nat} {I : Nat → Nat → Int32} {z : e_Z}  : e_L d 68 0 [.ref 44, .null] [] (mk I z) = (e_rV (e_E d 63 [.ref 44, .int (I (bd z.2.1.2.1) 2), .int (e_n 3)] (mk I z)) (fun σ => e_L d 68 12 [.ref 44, .null] [] σ) (e_H (e_L d 68) 68 9 [.ref 44, .null])) := by
  rcases z with ⟨J, ⟨s, _|_, fb, tt⟩, cs, X⟩
  all_goals exact e_L_to hd68 6 (by generalize e_L d 68 = K; generalize e_E d = E; rfl)
set_option maxRecDepth 20000 in
theorem B68_12 {d : Nat} {I : Nat → Nat → Int32} {z : e_Z}  : e_L d 68 12 [.ref 44, .null] [] (mk I z) = (e_rI (e_E d 65 [.ref 44, .int (e_n 999)] (mk I z)) (fun v σ => e_L d 68 19 [.ref 44, .null] [.int v] σ) (e_H (e_L d 68) 68 16 [.ref 44, .null])) := e_L_to hd68 3 (by generalize e_L d 68 = K; generalize e_E d = E; rfl)
set_option maxRecDepth 20000 in
theorem B68_19 {d : Nat} {I : Nat → Nat → Int32} {z : e_Z} {y0 : Int32}  : e_L d 68 19 [.ref 44, .null] [.int y0] (mk I z) = (if e_cc .ne (I 44 2) 0 = true then (e_L d 68 35 [.ref 44, .int y0] [] (mk I z)) else (e_rV (e_E d 2 [.ref (bd z.2.1.2.1), .int y0] (mk I z)) (fun σ => e_L d 68 35 [.ref 44, .int y0] [] σ) (e_H (e_L d 68) 68 32 [.ref 44, .int y0]))) := by
  rcases z with ⟨J, ⟨s, _|_, fb, tt⟩, cs, X⟩
  all_goals exact e_L_to hd68 8 (by generalize e_L d 68 = K; generalize e_E d = E; rfl)
set_option maxRecDepth 20000 in
theorem B68_35 {d : Nat} {I : Nat → Nat → Int32} {z : e_Z} {x1 : Int32}  : e_L d 68 35 [.ref 44, .int x1] [] (mk I z) = (some (.inl none, mk I z)) := e_L_to hd68 1 (by generalize e_L d 68 = K; generalize e_E d = E; rfl)
def hd69 : List Nat := [0, 16, 30, 49]
set_option maxRecDepth 20000 in
theorem B69_0 {d : Nat} {I : Nat → Nat → Int32} {z : e_Z} {x1 : Int32}  : e_L d 69 0 [.ref 44, .int x1, .null] [] (mk I z) = (e_rV (e_E d 63 [.ref 44, .int (I (bd z.2.1.2.1 + 1) 0), .int (e_n 8)] (mk I z)) (fun σ => e_L d 69 16 [.ref 44, .int x1, .null] [] σ) (e_H (e_L d 69) 69 13 [.ref 44, .int x1, .null])) := by
  rcases z with ⟨J, ⟨s, _|_, fb, tt⟩, cs, X⟩
  all_goals exact e_L_to hd69 7 (by generalize e_L d 69 = K; generalize e_E d = E; rfl)
set_option maxRecDepth 20000 in
theorem B69_16 {d : Nat} {I : Nat → Nat → Int32} {z : e_Z} {x1 : Int32}  : e_L d 69 16 [.ref 44, .int x1, .null] [] (mk I z) = (if e_cc .ne x1 (e_n (-1)) = true then (e_rI (e_E d 65 [.ref 44, .int x1] (mk I z)) (fun v σ => e_L d 69 30 [.ref 44, .int x1, .null] [.int v] σ) (e_H (e_L d 69) 69 27 [.ref 44, .int x1, .null])) else (e_L d 69 30 [.ref 44, .int x1, .null] [.int (e_n (-1))] (mk I z))) := e_L_to hd69 6 (by generalize e_L d 69 = K; generalize e_E d = E; rfl)
set_option maxRecDepth 20000 in
theorem B69_30 {d : Nat} {I : Nat → Nat → Int32} {z : e_Z} {x1 y0 : Int32}  : e_L d 69 30 [.ref 44, .int x1, .null] [.int y0] (mk I z) = (if e_cc .ne (I 44 2) 0 = true then (e_L d 69 49 [.ref 44, .int x1, .int y0] [] (mk I z)) else (e_rV (e_E d 26 [.ref (bd z.2.1.2.1 + 1), .int y0] (mk I z)) (fun σ => e_L d 69 49 [.ref 44, .int x1, .int y0] [] σ) (e_H (e_L d 69) 69 46 [.ref 44, .int x1, .int y0]))) := by
  rcases z with ⟨J, ⟨s, _|_, fb, tt⟩, cs, X⟩
  all_goals exact e_L_to hd69 9 (by generalize e_L d 69 = K; generalize e_E d = E; rfl)
set_option maxRecDepth 20000 in
theorem B69_49 {d : Nat} {I : Nat → Nat → Int32} {z : e_Z} {x1 x2 : Int32}  : e_L d 69 49 [.ref 44, .int x1, .int x2] [] (mk I z) = (some (.inl none, mk I z)) := e_L_to hd69 1 (by generalize e_L d 69 = K; generalize e_E d = E; rfl)
def hd70 : List Nat := [0, 16, 31, 47, 58, 63, 67, 74, 95]
set_option maxRecDepth 20000 in
theorem B70_0 {d : Nat} {I : Nat → Nat → Int32} {z : e_Z}  : e_L d 70 0 [.ref 44, .null, .null, .null] [] (mk I z) = (e_rV (e_E d 63 [.ref 44, .int (I (bd z.2.1.2.1 + 1) 1), .int (e_n 12)] (mk I z)) (fun σ => e_L d 70 16 [.ref 44, .null, .null, .null] [] σ) (e_H (e_L d 70) 70 13 [.ref 44, .null, .null, .null])) := by
  rcases z with ⟨J, ⟨s, _|_, fb, tt⟩, cs, X⟩
  all_goals exact e_L_to hd70 7 (by generalize e_L d 70 = K; generalize e_E d = E; rfl)
set_option maxRecDepth 20000 in
theorem B70_16 {d : Nat} {I : Nat → Nat → Int32} {z : e_Z}  : e_L d 70 16 [.ref 44, .null, .null, .null] [] (mk I z) = (e_rI (e_E d 66 [.ref 44, .int (I (bd z.2.1.2.1 + 1) 0), .int (e_n 0)] (mk I z)) (fun v σ => e_L d 70 31 [.ref 44, .null, .null, .null] [.int v] σ) (e_H (e_L d 70) 70 28 [.ref 44, .null, .null, .null])) := by
  rcases z with ⟨J, ⟨s, _|_, fb, tt⟩, cs, X⟩
  all_goals exact e_L_to hd70 7 (by generalize e_L d 70 = K; generalize e_E d = E; rfl)
set_option maxRecDepth 20000 in
theorem B70_31 {d : Nat} {I : Nat → Nat → Int32} {z : e_Z} {y0 : Int32}  : e_L d 70 31 [.ref 44, .null, .null, .null] [.int y0] (mk I z) = (e_rI (e_E d 173 [.int y0] (mk I z)) (fun v σ => e_L d 70 47 [.ref 44, .int y0, .null, .null] [.int v, .int (I (bd z.2.1.2.1 + 1) 0), .ref 44] σ) (e_H (e_L d 70) 70 44 [.ref 44, .int y0, .null, .null])) := by
  rcases z with ⟨J, ⟨s, _|_, fb, tt⟩, cs, X⟩
  all_goals exact e_L_to hd70 8 (by generalize e_L d 70 = K; generalize e_E d = E; rfl)
set_option maxRecDepth 20000 in
theorem B70_47 {d : Nat} {I : Nat → Nat → Int32} {z : e_Z} {x1 y1 y2 : Int32}  : e_L d 70 47 [.ref 44, .int x1, .null, .null] [.int y2, .int y1, .ref 44] (mk I z) = (e_rI (e_E d 173 [.int x1] (mk I z)) (fun v σ => e_L d 70 58 [.ref 44, .int x1, .null, .null] [.int v, .ref (bd z.2.1.2.1 + 1), .int y2, .int y1, .ref 44] σ) (e_H (e_L d 70) 70 55 [.ref 44, .int x1, .null, .null])) := by
  rcases z with ⟨J, ⟨s, _|_, fb, tt⟩, cs, X⟩
  all_goals exact e_L_to hd70 5 (by generalize e_L d 70 = K; generalize e_E d = E; rfl)
set_option maxRecDepth 20000 in
theorem B70_58 {d : Nat} {I : Nat → Nat → Int32} {z : e_Z} {x1 y1 y2 y4 : Int32}  : e_L d 70 58 [.ref 44, .int x1, .null, .null] [.int y4, .ref (bd z.2.1.2.1 + 1), .int y2, .int y1, .ref 44] (mk I z) = (e_rI (e_E d 32 [.ref (bd z.2.1.2.1 + 1), .int y4, .int (e_n (-1)), .int (e_n (-1))] (mk I z)) (fun v σ => e_L d 70 63 [.ref 44, .int x1, .null, .null] [.int v, .int y2, .int y1, .ref 44] σ) (e_H (e_L d 70) 70 60 [.ref 44, .int x1, .null, .null])) := by
  rcases z with ⟨J, ⟨s, _|_, fb, tt⟩, cs, X⟩
  all_goals exact e_L_to hd70 3 (by generalize e_L d 70 = K; generalize e_E d = E; rfl)
set_option maxRecDepth 20000 in
theorem B70_63 {d : Nat} {I : Nat → Nat → Int32} {z : e_Z} {x1 y1 y2 y3 : Int32}  : e_L d 70 63 [.ref 44, .int x1, .null, .null] [.int y3, .int y2, .int y1, .ref 44] (mk I z) = (e_rI (e_E d 66 [.ref 44, .int y1, .int (y2 ||| y3)] (mk I z)) (fun v σ => e_L d 70 67 [.ref 44, .int x1, .null, .null] [.int v] σ) (e_H (e_L d 70) 70 64 [.ref 44, .int x1, .null, .null])) := e_L_to hd70 2 (by generalize e_L d 70 = K; generalize e_E d = E; rfl)
set_option maxRecDepth 20000 in
theorem B70_67 {d : Nat} {I : Nat → Nat → Int32} {z : e_Z} {x1 y0 : Int32}  : e_L d 70 67 [.ref 44, .int x1, .null, .null] [.int y0] (mk I z) = (e_rI (e_E d 65 [.ref 44, .int (e_n 60)] (mk I z)) (fun v σ => e_L d 70 74 [.ref 44, .int x1, .int y0, .null] [.int v] σ) (e_H (e_L d 70) 70 71 [.ref 44, .int x1, .int y0, .null])) := e_L_to hd70 4 (by generalize e_L d 70 = K; generalize e_E d = E; rfl)
set_option maxRecDepth 20000 in
theorem B70_74 {d : Nat} {I : Nat → Nat → Int32} {z : e_Z} {x1 x2 y0 : Int32}  : e_L d 70 74 [.ref 44, .int x1, .int x2, .null] [.int y0] (mk I z) = (if e_cc .ne (I 44 2) 0 = true then (e_L d 70 95 [.ref 44, .int x1, .int x2, .int y0] [] (mk I z)) else (e_rV (e_E d 27 [.ref (bd z.2.1.2.1 + 1), .int x1, .int x2, .int y0] (mk I z)) (fun σ => e_L d 70 95 [.ref 44, .int x1, .int x2, .int y0] [] σ) (e_H (e_L d 70) 70 92 [.ref 44, .int x1, .int x2, .int y0]))) := by
  rcases z with ⟨J, ⟨s, _|_, fb, tt⟩, cs, X⟩
  all_goals exact e_L_to hd70 11 (by generalize e_L d 70 = K; generalize e_E d = E; rfl)
set_option maxRecDepth 20000 in
theorem B70_95 {d : Nat} {I : Nat → Nat → Int32} {z : e_Z} {x1 x2 x3 : Int32}  : e_L d 70 95 [.ref 44, .int x1, .int x2, .int x3] [] (mk I z) = (some (.inl none, mk I z)) := e_L_to hd70 1 (by generalize e_L d 70 = K; generalize e_E d = E; rfl)
def hd71 : List Nat := [0, 13, 19, 35, 52]
set_option maxRecDepth 20000 in
theorem B71_0 {d : Nat} {I : Nat → Nat → Int32} {z : e_Z}  : e_L d 71 0 [.ref 44, .null, .null] [] (mk I z) = (e_rV (e_E d 63 [.ref 44, .int (I (bd z.2.1.2.1) 6), .int (e_n 9)] (mk I z)) (fun σ => e_L d 71 13 [.ref 44, .null, .null] [] σ) (e_H (e_L d 71) 71 10 [.ref 44, .null, .null])) := by
  rcases z with ⟨J, ⟨s, _|_, fb, tt⟩, cs, X⟩
  all_goals exact e_L_to hd71 6 (by generalize e_L d 71 = K; generalize e_E d = E; rfl)
set_option maxRecDepth 20000 in
theorem B71_13 {d : Nat} {I : Nat → Nat → Int32} {z : e_Z}  : e_L d 71 13 [.ref 44, .null, .null] [] (mk I z) = (e_rI (e_E d 65 [.ref 44, .int (e_n 99)] (mk I z)) (fun v σ => e_L d 71 19 [.ref 44, .null, .null] [.int v] σ) (e_H (e_L d 71) 71 16 [.ref 44, .null, .null])) := e_L_to hd71 3 (by generalize e_L d 71 = K; generalize e_E d = E; rfl)
set_option maxRecDepth 20000 in
theorem B71_19 {d : Nat} {I : Nat → Nat → Int32} {z : e_Z} {y0 : Int32}  : e_L d 71 19 [.ref 44, .null, .null] [.int y0] (mk I z) = (e_rI (e_E d 66 [.ref 44, .int (I (bd z.2.1.2.1 + 1) 0), .int (e_n 0)] (mk I z)) (fun v σ => e_L d 71 35 [.ref 44, .int y0, .null] [.int v] σ) (e_H (e_L d 71) 71 32 [.ref 44, .int y0, .null])) := by
  rcases z with ⟨J, ⟨s, _|_, fb, tt⟩, cs, X⟩
  all_goals exact e_L_to hd71 8 (by generalize e_L d 71 = K; generalize e_E d = E; rfl)
set_option maxRecDepth 20000 in
theorem B71_35 {d : Nat} {I : Nat → Nat → Int32} {z : e_Z} {x1 y0 : Int32}  : e_L d 71 35 [.ref 44, .int x1, .null] [.int y0] (mk I z) = (if e_cc .ne (I 44 2) 0 = true then (e_L d 71 52 [.ref 44, .int x1, .int y0] [] (mk I z)) else (e_rV (e_E d 3 [.ref (bd z.2.1.2.1), .int x1, .int y0] (mk I z)) (fun σ => e_L d 71 52 [.ref 44, .int x1, .int y0] [] σ) (e_H (e_L d 71) 71 49 [.ref 44, .int x1, .int y0]))) := by
  rcases z with ⟨J, ⟨s, _|_, fb, tt⟩, cs, X⟩
  all_goals exact e_L_to hd71 9 (by generalize e_L d 71 = K; generalize e_E d = E; rfl)
set_option maxRecDepth 20000 in
theorem B71_52 {d : Nat} {I : Nat → Nat → Int32} {z : e_Z} {x1 x2 : Int32}  : e_L d 71 52 [.ref 44, .int x1, .int x2] [] (mk I z) = (some (.inl none, mk I z)) := e_L_to hd71 1 (by generalize e_L d 71 = K; generalize e_E d = E; rfl)
def hd72 : List Nat := [0, 13, 25, 38, 49, 53, 70]
set_option maxRecDepth 20000 in
theorem B72_0 {d : Nat} {I : Nat → Nat → Int32} {z : e_Z}  : e_L d 72 0 [.ref 44, .null, .null] [] (mk I z) = (e_rV (e_E d 63 [.ref 44, .int (I (bd z.2.1.2.1) 10), .int (e_n 9)] (mk I z)) (fun σ => e_L d 72 13 [.ref 44, .null, .null] [] σ) (e_H (e_L d 72) 72 10 [.ref 44, .null, .null])) := by
  rcases z with ⟨J, ⟨s, _|_, fb, tt⟩, cs, X⟩
  all_goals exact e_L_to hd72 6 (by generalize e_L d 72 = K; generalize e_E d = E; rfl)
set_option maxRecDepth 20000 in
theorem B72_13 {d : Nat} {I : Nat → Nat → Int32} {z : e_Z}  : e_L d 72 13 [.ref 44, .null, .null] [] (mk I z) = (e_rI (e_E d 66 [.ref 44, .int (I (bd z.2.1.2.1) 6), .int (e_n 0)] (mk I z)) (fun v σ => e_L d 72 25 [.ref 44, .null, .null] [.int v] σ) (e_H (e_L d 72) 72 22 [.ref 44, .null, .null])) := by
  rcases z with ⟨J, ⟨s, _|_, fb, tt⟩, cs, X⟩
  all_goals exact e_L_to hd72 6 (by generalize e_L d 72 = K; generalize e_E d = E; rfl)
set_option maxRecDepth 20000 in
theorem B72_25 {d : Nat} {I : Nat → Nat → Int32} {z : e_Z} {y0 : Int32}  : e_L d 72 25 [.ref 44, .null, .null] [.int y0] (mk I z) = (e_rI (e_E d 173 [.int y0] (mk I z)) (fun v σ => e_L d 72 38 [.ref 44, .int y0, .null] [.int v, .int (I (bd z.2.1.2.1) 6), .ref 44] σ) (e_H (e_L d 72) 72 35 [.ref 44, .int y0, .null])) := by
  rcases z with ⟨J, ⟨s, _|_, fb, tt⟩, cs, X⟩
  all_goals exact e_L_to hd72 7 (by generalize e_L d 72 = K; generalize e_E d = E; rfl)
set_option maxRecDepth 20000 in
theorem B72_38 {d : Nat} {I : Nat → Nat → Int32} {z : e_Z} {x1 y1 y2 : Int32}  : e_L d 72 38 [.ref 44, .int x1, .null] [.int y2, .int y1, .ref 44] (mk I z) = (e_rI (e_E d 169 [.ref (bd z.2.1.2.1 + 17), .int x1] (mk I z)) (fun v σ => e_L d 72 49 [.ref 44, .int x1, .null] [.int v, .int y2, .int y1, .ref 44] σ) (e_H (e_L d 72) 72 46 [.ref 44, .int x1, .null])) := by
  rcases z with ⟨J, ⟨s, _|_, fb, tt⟩, cs, X⟩
  all_goals exact e_L_to hd72 5 (by generalize e_L d 72 = K; generalize e_E d = E; rfl)
set_option maxRecDepth 20000 in
theorem B72_49 {d : Nat} {I : Nat → Nat → Int32} {z : e_Z} {x1 y1 y2 y3 : Int32}  : e_L d 72 49 [.ref 44, .int x1, .null] [.int y3, .int y2, .int y1, .ref 44] (mk I z) = (e_rI (e_E d 66 [.ref 44, .int y1, .int (y2 ||| y3)] (mk I z)) (fun v σ => e_L d 72 53 [.ref 44, .int x1, .null] [.int v] σ) (e_H (e_L d 72) 72 50 [.ref 44, .int x1, .null])) := e_L_to hd72 2 (by generalize e_L d 72 = K; generalize e_E d = E; rfl)
set_option maxRecDepth 20000 in
theorem B72_53 {d : Nat} {I : Nat → Nat → Int32} {z : e_Z} {x1 y0 : Int32}  : e_L d 72 53 [.ref 44, .int x1, .null] [.int y0] (mk I z) = (if e_cc .ne (I 44 2) 0 = true then (e_L d 72 70 [.ref 44, .int x1, .int y0] [] (mk I z)) else (e_rV (e_E d 4 [.ref (bd z.2.1.2.1), .int x1, .int y0] (mk I z)) (fun σ => e_L d 72 70 [.ref 44, .int x1, .int y0] [] σ) (e_H (e_L d 72) 72 67 [.ref 44, .int x1, .int y0]))) := by
  rcases z with ⟨J, ⟨s, _|_, fb, tt⟩, cs, X⟩
  all_goals exact e_L_to hd72 9 (by generalize e_L d 72 = K; generalize e_E d = E; rfl)
set_option maxRecDepth 20000 in
theorem B72_70 {d : Nat} {I : Nat → Nat → Int32} {z : e_Z} {x1 x2 : Int32}  : e_L d 72 70 [.ref 44, .int x1, .int x2] [] (mk I z) = (some (.inl none, mk I z)) := e_L_to hd72 1 (by generalize e_L d 72 = K; generalize e_E d = E; rfl)
def hd73 : List Nat := [0, 13, 25, 42, 45, 63]
set_option maxRecDepth 20000 in
theorem B73_0 {d : Nat} {I : Nat → Nat → Int32} {z : e_Z} {x1 : Int32}  : e_L d 73 0 [.ref 44, .int x1, .null, .null] [] (mk I z) = (e_rV (e_E d 63 [.ref 44, .int (I (bd z.2.1.2.1) 11), .int (e_n 12)] (mk I z)) (fun σ => e_L d 73 13 [.ref 44, .int x1, .null, .null] [] σ) (e_H (e_L d 73) 73 10 [.ref 44, .int x1, .null, .null])) := by
  rcases z with ⟨J, ⟨s, _|_, fb, tt⟩, cs, X⟩
  all_goals exact e_L_to hd73 6 (by generalize e_L d 73 = K; generalize e_E d = E; rfl)
set_option maxRecDepth 20000 in
theorem B73_13 {d : Nat} {I : Nat → Nat → Int32} {z : e_Z} {x1 : Int32}  : e_L d 73 13 [.ref 44, .int x1, .null, .null] [] (mk I z) = (e_rI (e_E d 66 [.ref 44, .int (I (bd z.2.1.2.1) 2), .int (e_n 0)] (mk I z)) (fun v σ => e_L d 73 25 [.ref 44, .int x1, .null, .null] [.int v] σ) (e_H (e_L d 73) 73 22 [.ref 44, .int x1, .null, .null])) := by
  rcases z with ⟨J, ⟨s, _|_, fb, tt⟩, cs, X⟩
  all_goals exact e_L_to hd73 6 (by generalize e_L d 73 = K; generalize e_E d = E; rfl)
set_option maxRecDepth 20000 in
theorem B73_25 {d : Nat} {I : Nat → Nat → Int32} {z : e_Z} {x1 y0 : Int32}  : e_L d 73 25 [.ref 44, .int x1, .null, .null] [.int y0] (mk I z) = (e_rI (e_E d 6 [.ref (bd z.2.1.2.1), .int y0] (mk I z)) (fun v σ => e_L d 73 42 [.ref 44, .int x1, .int y0, .null] [.int v, .int (I (bd z.2.1.2.1) 6), .ref 44] σ) (e_H (e_L d 73) 73 39 [.ref 44, .int x1, .int y0, .null])) := by
  rcases z with ⟨J, ⟨s, _|_, fb, tt⟩, cs, X⟩
  all_goals exact e_L_to hd73 9 (by generalize e_L d 73 = K; generalize e_E d = E; rfl)
set_option maxRecDepth 20000 in
theorem B73_42 {d : Nat} {I : Nat → Nat → Int32} {z : e_Z} {x1 x2 y1 y2 : Int32}  : e_L d 73 42 [.ref 44, .int x1, .int x2, .null] [.int y2, .int y1, .ref 44] (mk I z) = (e_rI (e_E d 66 [.ref 44, .int y1, .int y2] (mk I z)) (fun v σ => e_L d 73 45 [.ref 44, .int x1, .int x2, .null] [.int v] σ) (e_H (e_L d 73) 73 42 [.ref 44, .int x1, .int x2, .null])) := e_L_to hd73 1 (by generalize e_L d 73 = K; generalize e_E d = E; rfl)
set_option maxRecDepth 20000 in
theorem B73_45 {d : Nat} {I : Nat → Nat → Int32} {z : e_Z} {x1 x2 y0 : Int32}  : e_L d 73 45 [.ref 44, .int x1, .int x2, .null] [.int y0] (mk I z) = (if e_cc .ne (I 44 2) 0 = true then (e_L d 73 63 [.ref 44, .int x1, .int x2, .int y0] [] (mk I z)) else (e_rV (e_E d 5 [.ref (bd z.2.1.2.1), .int x2, .int y0, .int x1] (mk I z)) (fun σ => e_L d 73 63 [.ref 44, .int x1, .int x2, .int y0] [] σ) (e_H (e_L d 73) 73 60 [.ref 44, .int x1, .int x2, .int y0]))) := by
  rcases z with ⟨J, ⟨s, _|_, fb, tt⟩, cs, X⟩
  all_goals exact e_L_to hd73 10 (by generalize e_L d 73 = K; generalize e_E d = E; rfl)
set_option maxRecDepth 20000 in
theorem B73_63 {d : Nat} {I : Nat → Nat → Int32} {z : e_Z} {x1 x2 x3 : Int32}  : e_L d 73 63 [.ref 44, .int x1, .int x2, .int x3] [] (mk I z) = (some (.inl none, mk I z)) := e_L_to hd73 1 (by generalize e_L d 73 = K; generalize e_E d = E; rfl)
def hd74 : List Nat := [0, 10, 18, 26, 31]
set_option maxRecDepth 20000 in
theorem B74_0 {d : Nat} {I : Nat → Nat → Int32} {z : e_Z}  : e_L d 74 0 [.ref 44] [] (mk I z) = (e_rI (e_E d 88 [.ref (bd z.2.1.2.1 + 8)] (mk I z)) (fun v σ => e_L d 74 10 [.ref 44] [.int v] σ) (e_H (e_L d 74) 74 7 [.ref 44])) := by
  rcases z with ⟨J, ⟨s, _|_, fb, tt⟩, cs, X⟩
  all_goals exact e_L_to hd74 4 (by generalize e_L d 74 = K; generalize e_E d = E; rfl)
set_option maxRecDepth 20000 in
theorem B74_10 {d : Nat} {I : Nat → Nat → Int32} {z : e_Z} {y0 : Int32}  : e_L d 74 10 [.ref 44] [.int y0] (mk I z) = (if e_cc .eq y0 0 = true then (e_rV (e_E d 112 [.ref 45] (mk I z)) (fun σ => e_L d 74 26 [.ref 44] [] σ) (e_H (e_L d 74) 74 23 [.ref 44])) else (e_rV (e_E d 61 [.ref 44, .int (e_n 5)] (mk I z)) (fun σ => e_L d 74 18 [.ref 44] [] σ) (e_H (e_L d 74) 74 15 [.ref 44]))) := e_L_to hd74 4 (by generalize e_L d 74 = K; generalize e_E d = E; rfl)
set_option maxRecDepth 20000 in
theorem B74_18 {d : Nat} {I : Nat → Nat → Int32} {z : e_Z}  : e_L d 74 18 [.ref 44] [] (mk I z) = (some (.inl none, mk I z)) := e_L_to hd74 1 (by generalize e_L d 74 = K; generalize e_E d = E; rfl)
set_option maxRecDepth 20000 in
theorem B74_26 {d : Nat} {I : Nat → Nat → Int32} {z : e_Z}  : e_L d 74 26 [.ref 44] [] (mk I z) = (e_rV (e_E d 77 [.ref 44, .int (e_n 0)] (mk I z)) (fun σ => e_L d 74 31 [.ref 44] [] σ) (e_H (e_L d 74) 74 28 [.ref 44])) := e_L_to hd74 3 (by generalize e_L d 74 = K; generalize e_E d = E; rfl)
set_option maxRecDepth 20000 in
theorem B74_31 {d : Nat} {I : Nat → Nat → Int32} {z : e_Z}  : e_L d 74 31 [.ref 44] [] (mk I z) = (some (.inl none, mk I z)) := e_L_to hd74 1 (by generalize e_L d 74 = K; generalize e_E d = E; rfl)
def hd75 : List Nat := [0, 14, 22, 23]
set_option maxRecDepth 20000 in
theorem B75_0 {d : Nat} {I : Nat → Nat → Int32} {z : e_Z} {w : Nat}  : e_L d 75 0 [.ref 44, .ref w] [] (mk I z) = (if e_cc .ne (I 44 2) 0 = true then (e_L d 75 22 [.ref 44, .ref w] [] (mk I z)) else (e_rF (e_E d 114 [.ref 45] (mk I z)) (fun v σ => e_L d 75 14 [.ref 44, .ref w] [.ref v] σ) (e_H (e_L d 75) 75 11 [.ref 44, .ref w]))) := e_L_to hd75 6 (by generalize e_L d 75 = K; generalize e_E d = E; rfl)
set_option maxRecDepth 20000 in
theorem B75_14 {d : Nat} {I : Nat → Nat → Int32} {z : e_Z} {w s0 : Nat}  : e_L d 75 14 [.ref 44, .ref w] [.ref s0] (mk I z) = (e_ac s0 w (fun q => if (!q) = true then (e_L d 75 22 [.ref 44, .ref w] [] (mk I z)) else (e_L d 75 23 [.ref 44, .ref w] [.int (e_n 1)] (mk I z)))) := e_L_to hd75 4 (by generalize e_L d 75 = K; generalize e_E d = E; rfl)
set_option maxRecDepth 20000 in
theorem B75_22 {d : Nat} {I : Nat → Nat → Int32} {z : e_Z} {w : Nat}  : e_L d 75 22 [.ref 44, .ref w] [] (mk I z) = (e_L d 75 23 [.ref 44, .ref w] [.int (e_n 0)] (mk I z)) := e_L_to hd75 1 (by generalize e_L d 75 = K; generalize e_E d = E; rfl)
set_option maxRecDepth 20000 in
theorem B75_23 {d : Nat} {I : Nat → Nat → Int32} {z : e_Z} {w : Nat} {y0 : Int32}  : e_L d 75 23 [.ref 44, .ref w] [.int y0] (mk I z) = (if y0 = 0 ∨ y0 = 1 then some (.inl (some (.int y0)), mk I z) else none) := e_L_to hd75 1 (by generalize e_L d 75 = K; generalize e_E d = E; rfl)
def hd76 : List Nat := [0, 15, 22, 23]
set_option maxRecDepth 20000 in
theorem B76_0 {d : Nat} {I : Nat → Nat → Int32} {z : e_Z} {x1 : Int32}  : e_L d 76 0 [.ref 44, .int x1] [] (mk I z) = (if e_cc .ne (I 44 2) 0 = true then (e_L d 76 22 [.ref 44, .int x1] [] (mk I z)) else (e_rI (e_E d 113 [.ref 45, .int x1] (mk I z)) (fun v σ => e_L d 76 15 [.ref 44, .int x1] [.int v] σ) (e_H (e_L d 76) 76 12 [.ref 44, .int x1]))) := e_L_to hd76 7 (by generalize e_L d 76 = K; generalize e_E d = E; rfl)
set_option maxRecDepth 20000 in
theorem B76_15 {d : Nat} {I : Nat → Nat → Int32} {z : e_Z} {x1 y0 : Int32}  : e_L d 76 15 [.ref 44, .int x1] [.int y0] (mk I z) = (if e_cc .eq y0 0 = true then (e_L d 76 22 [.ref 44, .int x1] [] (mk I z)) else (e_L d 76 23 [.ref 44, .int x1] [.int (e_n 1)] (mk I z))) := e_L_to hd76 3 (by generalize e_L d 76 = K; generalize e_E d = E; rfl)
set_option maxRecDepth 20000 in
theorem B76_22 {d : Nat} {I : Nat → Nat → Int32} {z : e_Z} {x1 : Int32}  : e_L d 76 22 [.ref 44, .int x1] [] (mk I z) = (e_L d 76 23 [.ref 44, .int x1] [.int (e_n 0)] (mk I z)) := e_L_to hd76 1 (by generalize e_L d 76 = K; generalize e_E d = E; rfl)
set_option maxRecDepth 20000 in
theorem B76_23 {d : Nat} {I : Nat → Nat → Int32} {z : e_Z} {x1 y0 : Int32}  : e_L d 76 23 [.ref 44, .int x1] [.int y0] (mk I z) = (if y0 = 0 ∨ y0 = 1 then some (.inl (some (.int y0)), mk I z) else none) := e_L_to hd76 1 (by generalize e_L d 76 = K; generalize e_E d = E; rfl)
def hd77 : List Nat := [0, 28, 33, 48, 51, 56, 59, 65, 67, 81, 91, 96, 108, 114]
set_option maxRecDepth 20000 in
theorem B77_0 {d : Nat} {I : Nat → Nat → Int32} {z : e_Z} {x1 : Int32}  : e_L d 77 0 [.ref 44, .int x1, .null] [] (mk I z) = (if e_cc .lt x1 (e_n 6) = true then (e_rV (e_E d 78 [.ref 44, .int x1] (mk I z)) (fun σ => e_L d 77 65 [.ref 44, .int x1, .null] [] σ) (e_H (e_L d 77) 77 62 [.ref 44, .int x1, .null])) else (if e_cc .eq (I 45 7) (e_n 3) = true then (e_L d 77 28 [.ref 44, .int x1, .null] [] (mk I z)) else (if e_cc .ne (I 45 7) (e_n 2) = true then (e_L d 77 33 [.ref 44, .int x1, .null] [.int (e_n 0)] (mk I z)) else (e_L d 77 28 [.ref 44, .int x1, .null] [] (mk I z))))) := e_L_to hd77 14 (by generalize e_L d 77 = K; generalize e_E d = E; rfl)
set_option maxRecDepth 20000 in
theorem B77_28 {d : Nat} {I : Nat → Nat → Int32} {z : e_Z} {x1 : Int32}  : e_L d 77 28 [.ref 44, .int x1, .null] [] (mk I z) = (e_L d 77 33 [.ref 44, .int x1, .null] [.int (e_n 1)] (mk I z)) := e_L_to hd77 2 (by generalize e_L d 77 = K; generalize e_E d = E; rfl)
set_option maxRecDepth 20000 in
theorem B77_33 {d : Nat} {I : Nat → Nat → Int32} {z : e_Z} {x1 y0 : Int32}  : e_L d 77 33 [.ref 44, .int x1, .null] [.int y0] (mk I z) = (if e_cc .ne y0 0 = true then (e_L d 77 51 [.ref 44, .int x1, .int y0] [.ref 44] (mk I z)) else (e_rI (e_E d 113 [.ref 45, .int (e_n 40)] (mk I z)) (fun v σ => e_L d 77 48 [.ref 44, .int x1, .int y0] [.int v, .ref 44] σ) (e_H (e_L d 77) 77 45 [.ref 44, .int x1, .int y0]))) := e_L_to hd77 8 (by generalize e_L d 77 = K; generalize e_E d = E; rfl)
set_option maxRecDepth 20000 in
theorem B77_48 {d : Nat} {I : Nat → Nat → Int32} {z : e_Z} {x1 x2 y1 : Int32}  : e_L d 77 48 [.ref 44, .int x1, .int x2] [.int y1, .ref 44] (mk I z) = (if e_cc .eq y1 0 = true then (e_L d 77 56 [.ref 44, .int x1, .int x2] [.int (e_n 1), .ref 44] (mk I z)) else (e_L d 77 51 [.ref 44, .int x1, .int x2] [.ref 44] (mk I z))) := e_L_to hd77 2 (by generalize e_L d 77 = K; generalize e_E d = E; rfl)
set_option maxRecDepth 20000 in
theorem B77_51 {d : Nat} {I : Nat → Nat → Int32} {z : e_Z} {x1 x2 : Int32}  : e_L d 77 51 [.ref 44, .int x1, .int x2] [.ref 44] (mk I z) = (e_L d 77 56 [.ref 44, .int x1, .int x2] [.int (e_n 2), .ref 44] (mk I z)) := e_L_to hd77 2 (by generalize e_L d 77 = K; generalize e_E d = E; rfl)
set_option maxRecDepth 20000 in
theorem B77_56 {d : Nat} {I : Nat → Nat → Int32} {z : e_Z} {x1 x2 y1 : Int32}  : e_L d 77 56 [.ref 44, .int x1, .int x2] [.int y1, .ref 44] (mk I z) = (e_rV (e_E d 61 [.ref 44, .int y1] (mk I z)) (fun σ => e_L d 77 59 [.ref 44, .int x1, .int x2] [] σ) (e_H (e_L d 77) 77 56 [.ref 44, .int x1, .int x2])) := e_L_to hd77 1 (by generalize e_L d 77 = K; generalize e_E d = E; rfl)
set_option maxRecDepth 20000 in
theorem B77_59 {d : Nat} {I : Nat → Nat → Int32} {z : e_Z} {x1 x2 : Int32}  : e_L d 77 59 [.ref 44, .int x1, .int x2] [] (mk I z) = (some (.inl none, mk I z)) := e_L_to hd77 1 (by generalize e_L d 77 = K; generalize e_E d = E; rfl)
set_option maxRecDepth 20000 in
theorem B77_65 {d : Nat} {I : Nat → Nat → Int32} {z : e_Z} {x1 : Int32}  : e_L d 77 65 [.ref 44, .int x1, .null] [] (mk I z) = (e_L d 77 67 [.ref 44, .int x1, .int (e_n 0)] [] (mk I z)) := e_L_to hd77 2 (by generalize e_L d 77 = K; generalize e_E d = E; rfl)
set_option maxRecDepth 20000 in
theorem B77_67 {d : Nat} {I : Nat → Nat → Int32} {z : e_Z} {x1 x2 : Int32}  : e_L d 77 67 [.ref 44, .int x1, .int x2] [] (mk I z) = (if e_cc .ge x2 (e_n 701) = true then (e_L d 77 114 [.ref 44, .int x1, .int x2] [] (mk I z)) else (e_rI (e_E d 75 [.ref 44, .ref 1000106] (mk I z)) (fun v σ => e_L d 77 81 [.ref 44, .int x1, .int x2] [.int v] σ) (e_H (e_L d 77) 77 78 [.ref 44, .int x1, .int x2]))) := e_L_to hd77 6 (by generalize e_L d 77 = K; generalize e_E d = E; rfl)
set_option maxRecDepth 20000 in
theorem B77_81 {d : Nat} {I : Nat → Nat → Int32} {z : e_Z} {x1 x2 y0 : Int32}  : e_L d 77 81 [.ref 44, .int x1, .int x2] [.int y0] (mk I z) = (if e_cc .eq y0 0 = true then (e_L d 77 114 [.ref 44, .int x1, .int x2] [] (mk I z)) else (e_rV (e_E d 112 [.ref 45] (mk I z)) (fun σ => e_L d 77 91 [.ref 44, .int x1, .int x2] [] σ) (e_H (e_L d 77) 77 88 [.ref 44, .int x1, .int x2]))) := e_L_to hd77 4 (by generalize e_L d 77 = K; generalize e_E d = E; rfl)
set_option maxRecDepth 20000 in
theorem B77_91 {d : Nat} {I : Nat → Nat → Int32} {z : e_Z} {x1 x2 : Int32}  : e_L d 77 91 [.ref 44, .int x1, .int x2] [] (mk I z) = (e_rV (e_E d 78 [.ref 44, .int x1] (mk I z)) (fun σ => e_L d 77 96 [.ref 44, .int x1, .int x2] [] σ) (e_H (e_L d 77) 77 93 [.ref 44, .int x1, .int x2])) := e_L_to hd77 3 (by generalize e_L d 77 = K; generalize e_E d = E; rfl)
set_option maxRecDepth 20000 in
theorem B77_96 {d : Nat} {I : Nat → Nat → Int32} {z : e_Z} {x1 x2 : Int32}  : e_L d 77 96 [.ref 44, .int x1, .int x2] [] (mk I z) = (e_rV (e_E d 89 [.ref (bd z.2.1.2.1 + 8), .int (e_n (-9))] (mk I z)) (fun σ => e_L d 77 108 [.ref 44, .int x1, .int x2] [] σ) (e_H (e_L d 77) 77 105 [.ref 44, .int x1, .int x2])) := by
  rcases z with ⟨J, ⟨s, _|_, fb, tt⟩, cs, X⟩
  all_goals exact e_L_to hd77 5 (by generalize e_L d 77 = K; generalize e_E d = E; rfl)
set_option maxRecDepth 20000 in
theorem B77_108 {d : Nat} {I : Nat → Nat → Int32} {z : e_Z} {x1 x2 : Int32}  : e_L d 77 108 [.ref 44, .int x1, .int x2] [] (mk I z) = (e_L d 77 67 [.ref 44, .int x1, .int (x2 + e_n 1)] [] (mk I z)) := e_L_to hd77 2 (by generalize e_L d 77 = K; generalize e_E d = E; rfl)
set_option maxRecDepth 20000 in
theorem B77_114 {d : Nat} {I : Nat → Nat → Int32} {z : e_Z} {x1 x2 : Int32}  : e_L d 77 114 [.ref 44, .int x1, .int x2] [] (mk I z) = (some (.inl none, mk I z)) := e_L_to hd77 1 (by generalize e_L d 77 = K; generalize e_E d = E; rfl)
def hd78 : List Nat := [0, 5, 7, 21, 31, 36, 48, 54]
set_option maxRecDepth 20000 in
theorem B78_0 {d : Nat} {I : Nat → Nat → Int32} {z : e_Z} {x1 : Int32}  : e_L d 78 0 [.ref 44, .int x1, .null] [] (mk I z) = (e_rV (e_E d 79 [.ref 44, .int x1] (mk I z)) (fun σ => e_L d 78 5 [.ref 44, .int x1, .null] [] σ) (e_H (e_L d 78) 78 2 [.ref 44, .int x1, .null])) := e_L_to hd78 3 (by generalize e_L d 78 = K; generalize e_E d = E; rfl)
set_option maxRecDepth 20000 in
theorem B78_5 {d : Nat} {I : Nat → Nat → Int32} {z : e_Z} {x1 : Int32}  : e_L d 78 5 [.ref 44, .int x1, .null] [] (mk I z) = (e_L d 78 7 [.ref 44, .int x1, .int (e_n 0)] [] (mk I z)) := e_L_to hd78 2 (by generalize e_L d 78 = K; generalize e_E d = E; rfl)
set_option maxRecDepth 20000 in
theorem B78_7 {d : Nat} {I : Nat → Nat → Int32} {z : e_Z} {x1 x2 : Int32}  : e_L d 78 7 [.ref 44, .int x1, .int x2] [] (mk I z) = (if e_cc .ge x2 (e_n 701) = true then (e_L d 78 54 [.ref 44, .int x1, .int x2] [] (mk I z)) else (e_rI (e_E d 75 [.ref 44, .ref 1000107] (mk I z)) (fun v σ => e_L d 78 21 [.ref 44, .int x1, .int x2] [.int v] σ) (e_H (e_L d 78) 78 18 [.ref 44, .int x1, .int x2]))) := e_L_to hd78 6 (by generalize e_L d 78 = K; generalize e_E d = E; rfl)
set_option maxRecDepth 20000 in
theorem B78_21 {d : Nat} {I : Nat → Nat → Int32} {z : e_Z} {x1 x2 y0 : Int32}  : e_L d 78 21 [.ref 44, .int x1, .int x2] [.int y0] (mk I z) = (if e_cc .eq y0 0 = true then (e_L d 78 54 [.ref 44, .int x1, .int x2] [] (mk I z)) else (e_rV (e_E d 112 [.ref 45] (mk I z)) (fun σ => e_L d 78 31 [.ref 44, .int x1, .int x2] [] σ) (e_H (e_L d 78) 78 28 [.ref 44, .int x1, .int x2]))) := e_L_to hd78 4 (by generalize e_L d 78 = K; generalize e_E d = E; rfl)
set_option maxRecDepth 20000 in
theorem B78_31 {d : Nat} {I : Nat → Nat → Int32} {z : e_Z} {x1 x2 : Int32}  : e_L d 78 31 [.ref 44, .int x1, .int x2] [] (mk I z) = (e_rV (e_E d 79 [.ref 44, .int x1] (mk I z)) (fun σ => e_L d 78 36 [.ref 44, .int x1, .int x2] [] σ) (e_H (e_L d 78) 78 33 [.ref 44, .int x1, .int x2])) := e_L_to hd78 3 (by generalize e_L d 78 = K; generalize e_E d = E; rfl)
set_option maxRecDepth 20000 in
theorem B78_36 {d : Nat} {I : Nat → Nat → Int32} {z : e_Z} {x1 x2 : Int32}  : e_L d 78 36 [.ref 44, .int x1, .int x2] [] (mk I z) = (e_rV (e_E d 89 [.ref (bd z.2.1.2.1 + 8), .int (e_n (-10))] (mk I z)) (fun σ => e_L d 78 48 [.ref 44, .int x1, .int x2] [] σ) (e_H (e_L d 78) 78 45 [.ref 44, .int x1, .int x2])) := by
  rcases z with ⟨J, ⟨s, _|_, fb, tt⟩, cs, X⟩
  all_goals exact e_L_to hd78 5 (by generalize e_L d 78 = K; generalize e_E d = E; rfl)
set_option maxRecDepth 20000 in
theorem B78_48 {d : Nat} {I : Nat → Nat → Int32} {z : e_Z} {x1 x2 : Int32}  : e_L d 78 48 [.ref 44, .int x1, .int x2] [] (mk I z) = (e_L d 78 7 [.ref 44, .int x1, .int (x2 + e_n 1)] [] (mk I z)) := e_L_to hd78 2 (by generalize e_L d 78 = K; generalize e_E d = E; rfl)
set_option maxRecDepth 20000 in
theorem B78_54 {d : Nat} {I : Nat → Nat → Int32} {z : e_Z} {x1 x2 : Int32}  : e_L d 78 54 [.ref 44, .int x1, .int x2] [] (mk I z) = (some (.inl none, mk I z)) := e_L_to hd78 1 (by generalize e_L d 78 = K; generalize e_E d = E; rfl)
def hd79 : List Nat := [0, 4, 17, 27, 36, 43, 51, 57, 59, 76]
set_option maxRecDepth 20000 in
theorem B79_0 {d : Nat} {I : Nat → Nat → Int32} {z : e_Z} {x1 : Int32}  : e_L d 79 0 [.ref 44, .int x1, .null, .null] [] (mk I z) = (e_L d 79 4 [.ref 44, .int x1, .int (e_n 0), .int (e_n 0)] [] (mk I z)) := e_L_to hd79 4 (by generalize e_L d 79 = K; generalize e_E d = E; rfl)
set_option maxRecDepth 20000 in
theorem B79_4 {d : Nat} {I : Nat → Nat → Int32} {z : e_Z} {x1 x2 x3 : Int32}  : e_L d 79 4 [.ref 44, .int x1, .int x2, .int x3] [] (mk I z) = (if e_cc .ge x3 (e_n 6) = true then (e_L d 79 36 [.ref 44, .int x1, .int x2, .int x3] [] (mk I z)) else (e_rI (e_E d 75 [.ref 44, .ref 1000108] (mk I z)) (fun v σ => e_L d 79 17 [.ref 44, .int x1, .int x2, .int x3] [.int v] σ) (e_H (e_L d 79) 79 14 [.ref 44, .int x1, .int x2, .int x3]))) := e_L_to hd79 6 (by generalize e_L d 79 = K; generalize e_E d = E; rfl)
set_option maxRecDepth 20000 in
theorem B79_17 {d : Nat} {I : Nat → Nat → Int32} {z : e_Z} {x1 x2 x3 y0 : Int32}  : e_L d 79 17 [.ref 44, .int x1, .int x2, .int x3] [.int y0] (mk I z) = (if e_cc .eq y0 0 = true then (e_L d 79 36 [.ref 44, .int x1, .int x2, .int x3] [] (mk I z)) else (e_rV (e_E d 112 [.ref 45] (mk I z)) (fun σ => e_L d 79 27 [.ref 44, .int x1, .int x2, .int x3] [] σ) (e_H (e_L d 79) 79 24 [.ref 44, .int x1, .int x2, .int x3]))) := e_L_to hd79 4 (by generalize e_L d 79 = K; generalize e_E d = E; rfl)
set_option maxRecDepth 20000 in
theorem B79_27 {d : Nat} {I : Nat → Nat → Int32} {z : e_Z} {x1 x2 x3 : Int32}  : e_L d 79 27 [.ref 44, .int x1, .int x2, .int x3] [] (mk I z) = (e_L d 79 4 [.ref 44, .int x1, .int (x2 + e_n 1), .int (x3 + e_n 1)] [] (mk I z)) := e_L_to hd79 3 (by generalize e_L d 79 = K; generalize e_E d = E; rfl)
set_option maxRecDepth 20000 in
theorem B79_36 {d : Nat} {I : Nat → Nat → Int32} {z : e_Z} {x1 x2 x3 : Int32}  : e_L d 79 36 [.ref 44, .int x1, .int x2, .int x3] [] (mk I z) = (e_rI (e_E d 75 [.ref 44, .ref 1000108] (mk I z)) (fun v σ => e_L d 79 43 [.ref 44, .int x1, .int x2, .int x3] [.int v] σ) (e_H (e_L d 79) 79 40 [.ref 44, .int x1, .int x2, .int x3])) := e_L_to hd79 3 (by generalize e_L d 79 = K; generalize e_E d = E; rfl)
set_option maxRecDepth 20000 in
theorem B79_43 {d : Nat} {I : Nat → Nat → Int32} {z : e_Z} {x1 x2 x3 y0 : Int32}  : e_L d 79 43 [.ref 44, .int x1, .int x2, .int x3] [.int y0] (mk I z) = (if e_cc .eq y0 0 = true then (e_rV (e_E d 80 [.ref 44, .int x1] (mk I z)) (fun σ => e_L d 79 57 [.ref 44, .int x1, .int x2, .int x3] [] σ) (e_H (e_L d 79) 79 54 [.ref 44, .int x1, .int x2, .int x3])) else (e_rV (e_E d 61 [.ref 44, .int (e_n 2)] (mk I z)) (fun σ => e_L d 79 51 [.ref 44, .int x1, .int x2, .int x3] [] σ) (e_H (e_L d 79) 79 48 [.ref 44, .int x1, .int x2, .int x3]))) := e_L_to hd79 4 (by generalize e_L d 79 = K; generalize e_E d = E; rfl)
set_option maxRecDepth 20000 in
theorem B79_51 {d : Nat} {I : Nat → Nat → Int32} {z : e_Z} {x1 x2 x3 : Int32}  : e_L d 79 51 [.ref 44, .int x1, .int x2, .int x3] [] (mk I z) = (some (.inl none, mk I z)) := e_L_to hd79 1 (by generalize e_L d 79 = K; generalize e_E d = E; rfl)
set_option maxRecDepth 20000 in
theorem B79_57 {d : Nat} {I : Nat → Nat → Int32} {z : e_Z} {x1 x2 x3 : Int32}  : e_L d 79 57 [.ref 44, .int x1, .int x2, .int x3] [] (mk I z) = (e_L d 79 59 [.ref 44, .int x1, .int x2, .int (e_n 0)] [] (mk I z)) := e_L_to hd79 2 (by generalize e_L d 79 = K; generalize e_E d = E; rfl)
set_option maxRecDepth 20000 in
theorem B79_59 {d : Nat} {I : Nat → Nat → Int32} {z : e_Z} {x1 x2 x3 : Int32}  : e_L d 79 59 [.ref 44, .int x1, .int x2, .int x3] [] (mk I z) = (if e_cc .ge x3 x2 = true then (some (.inl none, mk I z)) else (e_rV (e_E d 89 [.ref (bd z.2.1.2.1 + 8), .int (e_n (-11))] (mk I z)) (fun σ => e_L d 79 76 [.ref 44, .int x1, .int x2, .int x3] [] σ) (e_H (e_L d 79) 79 73 [.ref 44, .int x1, .int x2, .int x3]))) := by
  rcases z with ⟨J, ⟨s, _|_, fb, tt⟩, cs, X⟩
  all_goals exact e_L_to hd79 8 (by generalize e_L d 79 = K; generalize e_E d = E; rfl)
set_option maxRecDepth 20000 in
theorem B79_76 {d : Nat} {I : Nat → Nat → Int32} {z : e_Z} {x1 x2 x3 : Int32}  : e_L d 79 76 [.ref 44, .int x1, .int x2, .int x3] [] (mk I z) = (e_L d 79 59 [.ref 44, .int x1, .int x2, .int (x3 + e_n 1)] [] (mk I z)) := e_L_to hd79 2 (by generalize e_L d 79 = K; generalize e_E d = E; rfl)
def hd80 : List Nat := [0, 5, 11, 20, 23, 29, 39, 47, 52, 63]
set_option maxRecDepth 20000 in
theorem B80_0 {d : Nat} {I : Nat → Nat → Int32} {z : e_Z} {x1 : Int32}  : e_L d 80 0 [.ref 44, .int x1, .null] [] (mk I z) = (e_rV (e_E d 81 [.ref 44, .int x1] (mk I z)) (fun σ => e_L d 80 5 [.ref 44, .int x1, .null] [] σ) (e_H (e_L d 80) 80 2 [.ref 44, .int x1, .null])) := e_L_to hd80 3 (by generalize e_L d 80 = K; generalize e_E d = E; rfl)
set_option maxRecDepth 20000 in
theorem B80_5 {d : Nat} {I : Nat → Nat → Int32} {z : e_Z} {x1 : Int32}  : e_L d 80 5 [.ref 44, .int x1, .null] [] (mk I z) = (e_rI (e_E d 76 [.ref 44, .int (e_n 60)] (mk I z)) (fun v σ => e_L d 80 11 [.ref 44, .int x1, .null] [.int v] σ) (e_H (e_L d 80) 80 8 [.ref 44, .int x1, .null])) := e_L_to hd80 3 (by generalize e_L d 80 = K; generalize e_E d = E; rfl)
set_option maxRecDepth 20000 in
theorem B80_11 {d : Nat} {I : Nat → Nat → Int32} {z : e_Z} {x1 y0 : Int32}  : e_L d 80 11 [.ref 44, .int x1, .null] [.int y0] (mk I z) = (if e_cc .ne y0 0 = true then (e_L d 80 23 [.ref 44, .int x1, .null] [] (mk I z)) else (e_rI (e_E d 76 [.ref 44, .int (e_n 61)] (mk I z)) (fun v σ => e_L d 80 20 [.ref 44, .int x1, .null] [.int v] σ) (e_H (e_L d 80) 80 17 [.ref 44, .int x1, .null]))) := e_L_to hd80 4 (by generalize e_L d 80 = K; generalize e_E d = E; rfl)
set_option maxRecDepth 20000 in
theorem B80_20 {d : Nat} {I : Nat → Nat → Int32} {z : e_Z} {x1 y0 : Int32}  : e_L d 80 20 [.ref 44, .int x1, .null] [.int y0] (mk I z) = (if e_cc .eq y0 0 = true then (e_L d 80 63 [.ref 44, .int x1, .null] [] (mk I z)) else (e_L d 80 23 [.ref 44, .int x1, .null] [] (mk I z))) := e_L_to hd80 1 (by generalize e_L d 80 = K; generalize e_E d = E; rfl)
set_option maxRecDepth 20000 in
theorem B80_23 {d : Nat} {I : Nat → Nat → Int32} {z : e_Z} {x1 : Int32}  : e_L d 80 23 [.ref 44, .int x1, .null] [] (mk I z) = (e_rI (e_E d 76 [.ref 44, .int (e_n 60)] (mk I z)) (fun v σ => e_L d 80 29 [.ref 44, .int x1, .null] [.int v] σ) (e_H (e_L d 80) 80 26 [.ref 44, .int x1, .null])) := e_L_to hd80 3 (by generalize e_L d 80 = K; generalize e_E d = E; rfl)
set_option maxRecDepth 20000 in
theorem B80_29 {d : Nat} {I : Nat → Nat → Int32} {z : e_Z} {x1 y0 : Int32}  : e_L d 80 29 [.ref 44, .int x1, .null] [.int y0] (mk I z) = (if e_cc .eq y0 0 = true then (e_L d 80 39 [.ref 44, .int x1, .null] [.int (e_n (-13))] (mk I z)) else (e_L d 80 39 [.ref 44, .int x1, .null] [.int (e_n (-12))] (mk I z))) := e_L_to hd80 3 (by generalize e_L d 80 = K; generalize e_E d = E; rfl)
set_option maxRecDepth 20000 in
theorem B80_39 {d : Nat} {I : Nat → Nat → Int32} {z : e_Z} {x1 y0 : Int32}  : e_L d 80 39 [.ref 44, .int x1, .null] [.int y0] (mk I z) = (e_rV (e_E d 112 [.ref 45] (mk I z)) (fun σ => e_L d 80 47 [.ref 44, .int x1, .int y0] [] σ) (e_H (e_L d 80) 80 44 [.ref 44, .int x1, .int y0])) := e_L_to hd80 4 (by generalize e_L d 80 = K; generalize e_E d = E; rfl)
set_option maxRecDepth 20000 in
theorem B80_47 {d : Nat} {I : Nat → Nat → Int32} {z : e_Z} {x1 x2 : Int32}  : e_L d 80 47 [.ref 44, .int x1, .int x2] [] (mk I z) = (e_rV (e_E d 81 [.ref 44, .int x1] (mk I z)) (fun σ => e_L d 80 52 [.ref 44, .int x1, .int x2] [] σ) (e_H (e_L d 80) 80 49 [.ref 44, .int x1, .int x2])) := e_L_to hd80 3 (by generalize e_L d 80 = K; generalize e_E d = E; rfl)
set_option maxRecDepth 20000 in
theorem B80_52 {d : Nat} {I : Nat → Nat → Int32} {z : e_Z} {x1 x2 : Int32}  : e_L d 80 52 [.ref 44, .int x1, .int x2] [] (mk I z) = (e_rV (e_E d 89 [.ref (bd z.2.1.2.1 + 8), .int x2] (mk I z)) (fun σ => e_L d 80 63 [.ref 44, .int x1, .int x2] [] σ) (e_H (e_L d 80) 80 60 [.ref 44, .int x1, .int x2])) := by
  rcases z with ⟨J, ⟨s, _|_, fb, tt⟩, cs, X⟩
  all_goals exact e_L_to hd80 5 (by generalize e_L d 80 = K; generalize e_E d = E; rfl)
set_option maxRecDepth 20000 in
theorem B80_63 {d : Nat} {I : Nat → Nat → Int32} {z : e_Z} {x1 : Int32} {u2 : Value}  : e_L d 80 63 [.ref 44, .int x1, u2] [] (mk I z) = (some (.inl none, mk I z)) := e_L_to hd80 1 (by generalize e_L d 80 = K; generalize e_E d = E; rfl)
def hd81 : List Nat := [0, 5, 7, 20, 29, 32, 38, 48, 56, 61, 72, 78]
set_option maxRecDepth 20000 in
theorem B81_0 {d : Nat} {I : Nat → Nat → Int32} {z : e_Z} {x1 : Int32}  : e_L d 81 0 [.ref 44, .int x1, .null, .null] [] (mk I z) = (e_rV (e_E d 82 [.ref 44, .int x1] (mk I z)) (fun σ => e_L d 81 5 [.ref 44, .int x1, .null, .null] [] σ) (e_H (e_L d 81) 81 2 [.ref 44, .int x1, .null, .null])) := e_L_to hd81 3 (by generalize e_L d 81 = K; generalize e_E d = E; rfl)
set_option maxRecDepth 20000 in
theorem B81_5 {d : Nat} {I : Nat → Nat → Int32} {z : e_Z} {x1 : Int32}  : e_L d 81 5 [.ref 44, .int x1, .null, .null] [] (mk I z) = (e_L d 81 7 [.ref 44, .int x1, .int (e_n 0), .null] [] (mk I z)) := e_L_to hd81 2 (by generalize e_L d 81 = K; generalize e_E d = E; rfl)
set_option maxRecDepth 20000 in
theorem B81_7 {d : Nat} {I : Nat → Nat → Int32} {z : e_Z} {x1 x2 : Int32} {u3 : Value}  : e_L d 81 7 [.ref 44, .int x1, .int x2, u3] [] (mk I z) = (if e_cc .ge x2 (e_n 701) = true then (e_L d 81 78 [.ref 44, .int x1, .int x2, u3] [] (mk I z)) else (e_rI (e_E d 76 [.ref 44, .int (e_n 43)] (mk I z)) (fun v σ => e_L d 81 20 [.ref 44, .int x1, .int x2, u3] [.int v] σ) (e_H (e_L d 81) 81 17 [.ref 44, .int x1, .int x2, u3]))) := e_L_to hd81 6 (by generalize e_L d 81 = K; generalize e_E d = E; rfl)
set_option maxRecDepth 20000 in
theorem B81_20 {d : Nat} {I : Nat → Nat → Int32} {z : e_Z} {x1 x2 y0 : Int32} {u3 : Value}  : e_L d 81 20 [.ref 44, .int x1, .int x2, u3] [.int y0] (mk I z) = (if e_cc .ne y0 0 = true then (e_L d 81 32 [.ref 44, .int x1, .int x2, u3] [] (mk I z)) else (e_rI (e_E d 76 [.ref 44, .int (e_n 45)] (mk I z)) (fun v σ => e_L d 81 29 [.ref 44, .int x1, .int x2, u3] [.int v] σ) (e_H (e_L d 81) 81 26 [.ref 44, .int x1, .int x2, u3]))) := e_L_to hd81 4 (by generalize e_L d 81 = K; generalize e_E d = E; rfl)
set_option maxRecDepth 20000 in
theorem B81_29 {d : Nat} {I : Nat → Nat → Int32} {z : e_Z} {x1 x2 y0 : Int32} {u3 : Value}  : e_L d 81 29 [.ref 44, .int x1, .int x2, u3] [.int y0] (mk I z) = (if e_cc .eq y0 0 = true then (e_L d 81 78 [.ref 44, .int x1, .int x2, u3] [] (mk I z)) else (e_L d 81 32 [.ref 44, .int x1, .int x2, u3] [] (mk I z))) := e_L_to hd81 1 (by generalize e_L d 81 = K; generalize e_E d = E; rfl)
set_option maxRecDepth 20000 in
theorem B81_32 {d : Nat} {I : Nat → Nat → Int32} {z : e_Z} {x1 x2 : Int32} {u3 : Value}  : e_L d 81 32 [.ref 44, .int x1, .int x2, u3] [] (mk I z) = (e_rI (e_E d 76 [.ref 44, .int (e_n 43)] (mk I z)) (fun v σ => e_L d 81 38 [.ref 44, .int x1, .int x2, u3] [.int v] σ) (e_H (e_L d 81) 81 35 [.ref 44, .int x1, .int x2, u3])) := e_L_to hd81 3 (by generalize e_L d 81 = K; generalize e_E d = E; rfl)
set_option maxRecDepth 20000 in
theorem B81_38 {d : Nat} {I : Nat → Nat → Int32} {z : e_Z} {x1 x2 y0 : Int32} {u3 : Value}  : e_L d 81 38 [.ref 44, .int x1, .int x2, u3] [.int y0] (mk I z) = (if e_cc .eq y0 0 = true then (e_L d 81 48 [.ref 44, .int x1, .int x2, u3] [.int (e_n (-15))] (mk I z)) else (e_L d 81 48 [.ref 44, .int x1, .int x2, u3] [.int (e_n (-14))] (mk I z))) := e_L_to hd81 3 (by generalize e_L d 81 = K; generalize e_E d = E; rfl)
set_option maxRecDepth 20000 in
theorem B81_48 {d : Nat} {I : Nat → Nat → Int32} {z : e_Z} {x1 x2 y0 : Int32} {u3 : Value}  : e_L d 81 48 [.ref 44, .int x1, .int x2, u3] [.int y0] (mk I z) = (e_rV (e_E d 112 [.ref 45] (mk I z)) (fun σ => e_L d 81 56 [.ref 44, .int x1, .int x2, .int y0] [] σ) (e_H (e_L d 81) 81 53 [.ref 44, .int x1, .int x2, .int y0])) := e_L_to hd81 4 (by generalize e_L d 81 = K; generalize e_E d = E; rfl)
set_option maxRecDepth 20000 in
theorem B81_56 {d : Nat} {I : Nat → Nat → Int32} {z : e_Z} {x1 x2 x3 : Int32}  : e_L d 81 56 [.ref 44, .int x1, .int x2, .int x3] [] (mk I z) = (e_rV (e_E d 82 [.ref 44, .int x1] (mk I z)) (fun σ => e_L d 81 61 [.ref 44, .int x1, .int x2, .int x3] [] σ) (e_H (e_L d 81) 81 58 [.ref 44, .int x1, .int x2, .int x3])) := e_L_to hd81 3 (by generalize e_L d 81 = K; generalize e_E d = E; rfl)
set_option maxRecDepth 20000 in
theorem B81_61 {d : Nat} {I : Nat → Nat → Int32} {z : e_Z} {x1 x2 x3 : Int32}  : e_L d 81 61 [.ref 44, .int x1, .int x2, .int x3] [] (mk I z) = (e_rV (e_E d 89 [.ref (bd z.2.1.2.1 + 8), .int x3] (mk I z)) (fun σ => e_L d 81 72 [.ref 44, .int x1, .int x2, .int x3] [] σ) (e_H (e_L d 81) 81 69 [.ref 44, .int x1, .int x2, .int x3])) := by
  rcases z with ⟨J, ⟨s, _|_, fb, tt⟩, cs, X⟩
  all_goals exact e_L_to hd81 5 (by generalize e_L d 81 = K; generalize e_E d = E; rfl)
set_option maxRecDepth 20000 in
theorem B81_72 {d : Nat} {I : Nat → Nat → Int32} {z : e_Z} {x1 x2 x3 : Int32}  : e_L d 81 72 [.ref 44, .int x1, .int x2, .int x3] [] (mk I z) = (e_L d 81 7 [.ref 44, .int x1, .int (x2 + e_n 1), .int x3] [] (mk I z)) := e_L_to hd81 2 (by generalize e_L d 81 = K; generalize e_E d = E; rfl)
set_option maxRecDepth 20000 in
theorem B81_78 {d : Nat} {I : Nat → Nat → Int32} {z : e_Z} {x1 x2 : Int32} {u3 : Value}  : e_L d 81 78 [.ref 44, .int x1, .int x2, u3] [] (mk I z) = (some (.inl none, mk I z)) := e_L_to hd81 1 (by generalize e_L d 81 = K; generalize e_E d = E; rfl)
def hd82 : List Nat := [0, 5, 7, 20, 29, 32, 38, 48, 56, 61, 72, 78]
set_option maxRecDepth 20000 in
theorem B82_0 {d : Nat} {I : Nat → Nat → Int32} {z : e_Z} {x1 : Int32}  : e_L d 82 0 [.ref 44, .int x1, .null, .null] [] (mk I z) = (e_rV (e_E d 83 [.ref 44, .int x1] (mk I z)) (fun σ => e_L d 82 5 [.ref 44, .int x1, .null, .null] [] σ) (e_H (e_L d 82) 82 2 [.ref 44, .int x1, .null, .null])) := e_L_to hd82 3 (by generalize e_L d 82 = K; generalize e_E d = E; rfl)
set_option maxRecDepth 20000 in
theorem B82_5 {d : Nat} {I : Nat → Nat → Int32} {z : e_Z} {x1 : Int32}  : e_L d 82 5 [.ref 44, .int x1, .null, .null] [] (mk I z) = (e_L d 82 7 [.ref 44, .int x1, .int (e_n 0), .null] [] (mk I z)) := e_L_to hd82 2 (by generalize e_L d 82 = K; generalize e_E d = E; rfl)
set_option maxRecDepth 20000 in
theorem B82_7 {d : Nat} {I : Nat → Nat → Int32} {z : e_Z} {x1 x2 : Int32} {u3 : Value}  : e_L d 82 7 [.ref 44, .int x1, .int x2, u3] [] (mk I z) = (if e_cc .ge x2 (e_n 701) = true then (e_L d 82 78 [.ref 44, .int x1, .int x2, u3] [] (mk I z)) else (e_rI (e_E d 76 [.ref 44, .int (e_n 42)] (mk I z)) (fun v σ => e_L d 82 20 [.ref 44, .int x1, .int x2, u3] [.int v] σ) (e_H (e_L d 82) 82 17 [.ref 44, .int x1, .int x2, u3]))) := e_L_to hd82 6 (by generalize e_L d 82 = K; generalize e_E d = E; rfl)
set_option maxRecDepth 20000 in
theorem B82_20 {d : Nat} {I : Nat → Nat → Int32} {z : e_Z} {x1 x2 y0 : Int32} {u3 : Value}  : e_L d 82 20 [.ref 44, .int x1, .int x2, u3] [.int y0] (mk I z) = (if e_cc .ne y0 0 = true then (e_L d 82 32 [.ref 44, .int x1, .int x2, u3] [] (mk I z)) else (e_rI (e_E d 76 [.ref 44, .int (e_n 47)] (mk I z)) (fun v σ => e_L d 82 29 [.ref 44, .int x1, .int x2, u3] [.int v] σ) (e_H (e_L d 82) 82 26 [.ref 44, .int x1, .int x2, u3]))) := e_L_to hd82 4 (by generalize e_L d 82 = K; generalize e_E d = E; rfl)
set_option maxRecDepth 20000 in
theorem B82_29 {d : Nat} {I : Nat → Nat → Int32} {z : e_Z} {x1 x2 y0 : Int32} {u3 : Value}  : e_L d 82 29 [.ref 44, .int x1, .int x2, u3] [.int y0] (mk I z) = (if e_cc .eq y0 0 = true then (e_L d 82 78 [.ref 44, .int x1, .int x2, u3] [] (mk I z)) else (e_L d 82 32 [.ref 44, .int x1, .int x2, u3] [] (mk I z))) := e_L_to hd82 1 (by generalize e_L d 82 = K; generalize e_E d = E; rfl)
set_option maxRecDepth 20000 in
theorem B82_32 {d : Nat} {I : Nat → Nat → Int32} {z : e_Z} {x1 x2 : Int32} {u3 : Value}  : e_L d 82 32 [.ref 44, .int x1, .int x2, u3] [] (mk I z) = (e_rI (e_E d 76 [.ref 44, .int (e_n 42)] (mk I z)) (fun v σ => e_L d 82 38 [.ref 44, .int x1, .int x2, u3] [.int v] σ) (e_H (e_L d 82) 82 35 [.ref 44, .int x1, .int x2, u3])) := e_L_to hd82 3 (by generalize e_L d 82 = K; generalize e_E d = E; rfl)
set_option maxRecDepth 20000 in
theorem B82_38 {d : Nat} {I : Nat → Nat → Int32} {z : e_Z} {x1 x2 y0 : Int32} {u3 : Value}  : e_L d 82 38 [.ref 44, .int x1, .int x2, u3] [.int y0] (mk I z) = (if e_cc .eq y0 0 = true then (e_L d 82 48 [.ref 44, .int x1, .int x2, u3] [.int (e_n (-17))] (mk I z)) else (e_L d 82 48 [.ref 44, .int x1, .int x2, u3] [.int (e_n (-16))] (mk I z))) := e_L_to hd82 3 (by generalize e_L d 82 = K; generalize e_E d = E; rfl)
set_option maxRecDepth 20000 in
theorem B82_48 {d : Nat} {I : Nat → Nat → Int32} {z : e_Z} {x1 x2 y0 : Int32} {u3 : Value}  : e_L d 82 48 [.ref 44, .int x1, .int x2, u3] [.int y0] (mk I z) = (e_rV (e_E d 112 [.ref 45] (mk I z)) (fun σ => e_L d 82 56 [.ref 44, .int x1, .int x2, .int y0] [] σ) (e_H (e_L d 82) 82 53 [.ref 44, .int x1, .int x2, .int y0])) := e_L_to hd82 4 (by generalize e_L d 82 = K; generalize e_E d = E; rfl)
set_option maxRecDepth 20000 in
theorem B82_56 {d : Nat} {I : Nat → Nat → Int32} {z : e_Z} {x1 x2 x3 : Int32}  : e_L d 82 56 [.ref 44, .int x1, .int x2, .int x3] [] (mk I z) = (e_rV (e_E d 83 [.ref 44, .int x1] (mk I z)) (fun σ => e_L d 82 61 [.ref 44, .int x1, .int x2, .int x3] [] σ) (e_H (e_L d 82) 82 58 [.ref 44, .int x1, .int x2, .int x3])) := e_L_to hd82 3 (by generalize e_L d 82 = K; generalize e_E d = E; rfl)
set_option maxRecDepth 20000 in
theorem B82_61 {d : Nat} {I : Nat → Nat → Int32} {z : e_Z} {x1 x2 x3 : Int32}  : e_L d 82 61 [.ref 44, .int x1, .int x2, .int x3] [] (mk I z) = (e_rV (e_E d 89 [.ref (bd z.2.1.2.1 + 8), .int x3] (mk I z)) (fun σ => e_L d 82 72 [.ref 44, .int x1, .int x2, .int x3] [] σ) (e_H (e_L d 82) 82 69 [.ref 44, .int x1, .int x2, .int x3])) := by
  rcases z with ⟨J, ⟨s, _|_, fb, tt⟩, cs, X⟩
  all_goals exact e_L_to hd82 5 (by generalize e_L d 82 = K; generalize e_E d = E; rfl)
set_option maxRecDepth 20000 in
theorem B82_72 {d : Nat} {I : Nat → Nat → Int32} {z : e_Z} {x1 x2 x3 : Int32}  : e_L d 82 72 [.ref 44, .int x1, .int x2, .int x3] [] (mk I z) = (e_L d 82 7 [.ref 44, .int x1, .int (x2 + e_n 1), .int x3] [] (mk I z)) := e_L_to hd82 2 (by generalize e_L d 82 = K; generalize e_E d = E; rfl)
set_option maxRecDepth 20000 in
theorem B82_78 {d : Nat} {I : Nat → Nat → Int32} {z : e_Z} {x1 x2 : Int32} {u3 : Value}  : e_L d 82 78 [.ref 44, .int x1, .int x2, u3] [] (mk I z) = (some (.inl none, mk I z)) := e_L_to hd82 1 (by generalize e_L d 82 = K; generalize e_E d = E; rfl)
def hd83 : List Nat := [0, 23, 41, 53, 63, 70, 76, 84]
set_option maxRecDepth 20000 in
theorem B83_0 {d : Nat} {I : Nat → Nat → Int32} {z : e_Z} {x1 : Int32}  : e_L d 83 0 [.ref 44, .int x1] [] (mk I z) = (if e_cc .eq (I 44 2) 0 = true then (if e_cc .ne (I 45 7) (e_n 2) = true then (if e_cc .ne (I 45 7) (e_n 3) = true then (e_rI (e_E d 113 [.ref 45, .int (e_n 40)] (mk I z)) (fun v σ => e_L d 83 53 [.ref 44, .int x1] [.int v] σ) (e_H (e_L d 83) 83 50 [.ref 44, .int x1])) else (e_rV (e_E d 84 [.ref 44] (mk I z)) (fun σ => e_L d 83 41 [.ref 44, .int x1] [] σ) (e_H (e_L d 83) 83 38 [.ref 44, .int x1]))) else (e_rV (e_E d 85 [.ref 44] (mk I z)) (fun σ => e_L d 83 23 [.ref 44, .int x1] [] σ) (e_H (e_L d 83) 83 20 [.ref 44, .int x1]))) else (some (.inl none, mk I z))) := e_L_to hd83 17 (by generalize e_L d 83 = K; generalize e_E d = E; rfl)
set_option maxRecDepth 20000 in
theorem B83_23 {d : Nat} {I : Nat → Nat → Int32} {z : e_Z} {x1 : Int32}  : e_L d 83 23 [.ref 44, .int x1] [] (mk I z) = (e_L d 83 84 [.ref 44, .int x1] [] (mk I z)) := e_L_to hd83 1 (by generalize e_L d 83 = K; generalize e_E d = E; rfl)
set_option maxRecDepth 20000 in
theorem B83_41 {d : Nat} {I : Nat → Nat → Int32} {z : e_Z} {x1 : Int32}  : e_L d 83 41 [.ref 44, .int x1] [] (mk I z) = (e_L d 83 84 [.ref 44, .int x1] [] (mk I z)) := e_L_to hd83 1 (by generalize e_L d 83 = K; generalize e_E d = E; rfl)
set_option maxRecDepth 20000 in
theorem B83_53 {d : Nat} {I : Nat → Nat → Int32} {z : e_Z} {x1 y0 : Int32}  : e_L d 83 53 [.ref 44, .int x1] [.int y0] (mk I z) = (if e_cc .eq y0 0 = true then (e_rV (e_E d 61 [.ref 44, .int (e_n 1)] (mk I z)) (fun σ => e_L d 83 84 [.ref 44, .int x1] [] σ) (e_H (e_L d 83) 83 81 [.ref 44, .int x1])) else (e_rV (e_E d 112 [.ref 45] (mk I z)) (fun σ => e_L d 83 63 [.ref 44, .int x1] [] σ) (e_H (e_L d 83) 83 60 [.ref 44, .int x1]))) := e_L_to hd83 4 (by generalize e_L d 83 = K; generalize e_E d = E; rfl)
set_option maxRecDepth 20000 in
theorem B83_63 {d : Nat} {I : Nat → Nat → Int32} {z : e_Z} {x1 : Int32}  : e_L d 83 63 [.ref 44, .int x1] [] (mk I z) = (e_rV (e_E d 77 [.ref 44, .int (x1 + (e_n 1))] (mk I z)) (fun σ => e_L d 83 70 [.ref 44, .int x1] [] σ) (e_H (e_L d 83) 83 67 [.ref 44, .int x1])) := e_L_to hd83 5 (by generalize e_L d 83 = K; generalize e_E d = E; rfl)
set_option maxRecDepth 20000 in
theorem B83_70 {d : Nat} {I : Nat → Nat → Int32} {z : e_Z} {x1 : Int32}  : e_L d 83 70 [.ref 44, .int x1] [] (mk I z) = (e_rV (e_E d 64 [.ref 44, .int (e_n 41)] (mk I z)) (fun σ => e_L d 83 76 [.ref 44, .int x1] [] σ) (e_H (e_L d 83) 83 73 [.ref 44, .int x1])) := e_L_to hd83 3 (by generalize e_L d 83 = K; generalize e_E d = E; rfl)
set_option maxRecDepth 20000 in
theorem B83_76 {d : Nat} {I : Nat → Nat → Int32} {z : e_Z} {x1 : Int32}  : e_L d 83 76 [.ref 44, .int x1] [] (mk I z) = (e_L d 83 84 [.ref 44, .int x1] [] (mk I z)) := e_L_to hd83 1 (by generalize e_L d 83 = K; generalize e_E d = E; rfl)
set_option maxRecDepth 20000 in
theorem B83_84 {d : Nat} {I : Nat → Nat → Int32} {z : e_Z} {x1 : Int32}  : e_L d 83 84 [.ref 44, .int x1] [] (mk I z) = (some (.inl none, mk I z)) := e_L_to hd83 1 (by generalize e_L d 83 = K; generalize e_E d = E; rfl)
def hd84 : List Nat := [0, 16, 34, 41]
set_option maxRecDepth 20000 in
theorem B84_0 {d : Nat} {I : Nat → Nat → Int32} {z : e_Z}  : e_L d 84 0 [.ref 44] [] (mk I z) = (if e_cc .ne (I 45 9) (e_n (-1)) = true then (e_rV (e_E d 89 [.ref (bd z.2.1.2.1 + 8), .int (I 45 9)] (mk I z)) (fun σ => e_L d 84 34 [.ref 44] [] σ) (e_H (e_L d 84) 84 31 [.ref 44])) else (e_rV (e_E d 61 [.ref 44, .int (e_n 2)] (mk I z)) (fun σ => e_L d 84 16 [.ref 44] [] σ) (e_H (e_L d 84) 84 13 [.ref 44]))) := by
  rcases z with ⟨J, ⟨s, _|_, fb, tt⟩, cs, X⟩
  all_goals exact e_L_to hd84 12 (by generalize e_L d 84 = K; generalize e_E d = E; rfl)
set_option maxRecDepth 20000 in
theorem B84_16 {d : Nat} {I : Nat → Nat → Int32} {z : e_Z}  : e_L d 84 16 [.ref 44] [] (mk I z) = (some (.inl none, mk I z)) := e_L_to hd84 1 (by generalize e_L d 84 = K; generalize e_E d = E; rfl)
set_option maxRecDepth 20000 in
theorem B84_34 {d : Nat} {I : Nat → Nat → Int32} {z : e_Z}  : e_L d 84 34 [.ref 44] [] (mk I z) = (e_rV (e_E d 112 [.ref 45] (mk I z)) (fun σ => e_L d 84 41 [.ref 44] [] σ) (e_H (e_L d 84) 84 38 [.ref 44])) := e_L_to hd84 3 (by generalize e_L d 84 = K; generalize e_E d = E; rfl)
set_option maxRecDepth 20000 in
theorem B84_41 {d : Nat} {I : Nat → Nat → Int32} {z : e_Z}  : e_L d 84 41 [.ref 44] [] (mk I z) = (some (.inl none, mk I z)) := e_L_to hd84 1 (by generalize e_L d 84 = K; generalize e_E d = E; rfl)
def hd85 : List Nat := [0, 7, 12, 16, 19, 24, 25, 36, 39, 46]
set_option maxRecDepth 20000 in
theorem B85_0 {d : Nat} {I : Nat → Nat → Int32} {z : e_Z}  : e_L d 85 0 [.ref 44, .null] [] (mk I z) = (e_rF (e_E d 114 [.ref 45] (mk I z)) (fun v σ => e_L d 85 7 [.ref 44, .null] [.ref v] σ) (e_H (e_L d 85) 85 4 [.ref 44, .null])) := e_L_to hd85 3 (by generalize e_L d 85 = K; generalize e_E d = E; rfl)
set_option maxRecDepth 20000 in
theorem B85_7 {d : Nat} {I : Nat → Nat → Int32} {z : e_Z} {s0 : Nat}  : e_L d 85 7 [.ref 44, .null] [.ref s0] (mk I z) = (if decide (s0 = 0) = true then (e_L d 85 19 [.ref 44, .ref s0] [] (mk I z)) else (e_L d 85 12 [.ref 44, .ref s0] [] (mk I z))) := e_L_to hd85 3 (by generalize e_L d 85 = K; generalize e_E d = E; rfl)
set_option maxRecDepth 20000 in
theorem B85_12 {d : Nat} {I : Nat → Nat → Int32} {z : e_Z} {s0 : Nat}  : e_L d 85 12 [.ref 44, .ref s0] [] (mk I z) = (e_gsI 40 1 s0 (fun v => (e_L d 85 16 [.ref 44, .ref s0] [.int v] (mk I z)))) := e_L_to hd85 2 (by generalize e_L d 85 = K; generalize e_E d = E; rfl)
set_option maxRecDepth 20000 in
theorem B85_16 {d : Nat} {I : Nat → Nat → Int32} {z : e_Z} {s0 : Nat} {y0 : Int32}  : e_L d 85 16 [.ref 44, .ref s0] [.int y0] (mk I z) = (if e_cc .ne y0 0 = true then (e_L d 85 25 [.ref 44, .ref s0] [] (mk I z)) else (e_L d 85 19 [.ref 44, .ref s0] [] (mk I z))) := e_L_to hd85 1 (by generalize e_L d 85 = K; generalize e_E d = E; rfl)
set_option maxRecDepth 20000 in
theorem B85_19 {d : Nat} {I : Nat → Nat → Int32} {z : e_Z} {s0 : Nat}  : e_L d 85 19 [.ref 44, .ref s0] [] (mk I z) = (e_rV (e_E d 61 [.ref 44, .int (e_n 3)] (mk I z)) (fun σ => e_L d 85 24 [.ref 44, .ref s0] [] σ) (e_H (e_L d 85) 85 21 [.ref 44, .ref s0])) := e_L_to hd85 3 (by generalize e_L d 85 = K; generalize e_E d = E; rfl)
set_option maxRecDepth 20000 in
theorem B85_24 {d : Nat} {I : Nat → Nat → Int32} {z : e_Z} {s0 : Nat}  : e_L d 85 24 [.ref 44, .ref s0] [] (mk I z) = (some (.inl none, mk I z)) := e_L_to hd85 1 (by generalize e_L d 85 = K; generalize e_E d = E; rfl)
set_option maxRecDepth 20000 in
theorem B85_25 {d : Nat} {I : Nat → Nat → Int32} {z : e_Z} {s0 : Nat}  : e_L d 85 25 [.ref 44, .ref s0] [] (mk I z) = (e_gsI 40 1 s0 (fun v => (e_L d 85 36 [.ref 44, .ref s0] [.int v, .ref (bd z.2.1.2.1 + 8)] (mk I z)))) := by
  rcases z with ⟨J, ⟨s, _|_, fb, tt⟩, cs, X⟩
  all_goals exact e_L_to hd85 5 (by generalize e_L d 85 = K; generalize e_E d = E; rfl)
set_option maxRecDepth 20000 in
theorem B85_36 {d : Nat} {I : Nat → Nat → Int32} {z : e_Z} {s0 : Nat} {y1 : Int32}  : e_L d 85 36 [.ref 44, .ref s0] [.int y1, .ref (bd z.2.1.2.1 + 8)] (mk I z) = (e_rV (e_E d 89 [.ref (bd z.2.1.2.1 + 8), .int y1] (mk I z)) (fun σ => e_L d 85 39 [.ref 44, .ref s0] [] σ) (e_H (e_L d 85) 85 36 [.ref 44, .ref s0])) := by
  rcases z with ⟨J, ⟨s, _|_, fb, tt⟩, cs, X⟩
  all_goals exact e_L_to hd85 1 (by generalize e_L d 85 = K; generalize e_E d = E; rfl)
set_option maxRecDepth 20000 in
theorem B85_39 {d : Nat} {I : Nat → Nat → Int32} {z : e_Z} {s0 : Nat}  : e_L d 85 39 [.ref 44, .ref s0] [] (mk I z) = (e_rV (e_E d 112 [.ref 45] (mk I z)) (fun σ => e_L d 85 46 [.ref 44, .ref s0] [] σ) (e_H (e_L d 85) 85 43 [.ref 44, .ref s0])) := e_L_to hd85 3 (by generalize e_L d 85 = K; generalize e_E d = E; rfl)
set_option maxRecDepth 20000 in
theorem B85_46 {d : Nat} {I : Nat → Nat → Int32} {z : e_Z} {s0 : Nat}  : e_L d 85 46 [.ref 44, .ref s0] [] (mk I z) = (some (.inl none, mk I z)) := e_L_to hd85 1 (by generalize e_L d 85 = K; generalize e_E d = E; rfl)
def hd87 : List Nat := [0]
set_option maxRecDepth 20000 in
theorem B87_0 {d : Nat} {I : Nat → Nat → Int32} {z : e_Z} {b : Nat} (hb : B2 b) : e_L d 87 0 [.ref (b + 8)] [] (mk I z) = (some (.inl none, mk (e_u I (b + 8) 1 (e_n 0)) z)) := by
  rcases hb with rfl | rfl
  all_goals exact e_L_to hd87 4 (by generalize e_L d 87 = K; generalize e_E d = E; rfl)
def hd88 : List Nat := [0, 12]
set_option maxRecDepth 20000 in
theorem B88_0 {d : Nat} {I : Nat → Nat → Int32} {z : e_Z} {b : Nat} (hb : B2 b) : e_L d 88 0 [.ref (b + 8)] [] (mk I z) = (if e_cc .le (I (b + 8) 1) 0 = true then (e_L d 88 12 [.ref (b + 8)] [.int (e_n 0)] (mk I z)) else (e_L d 88 12 [.ref (b + 8)] [.int (e_n 1)] (mk I z))) := by
  rcases hb with rfl | rfl
  all_goals exact e_L_to hd88 5 (by generalize e_L d 88 = K; generalize e_E d = E; rfl)
set_option maxRecDepth 20000 in
theorem B88_12 {d : Nat} {I : Nat → Nat → Int32} {z : e_Z} {b : Nat} {y0 : Int32}  : e_L d 88 12 [.ref (b + 8)] [.int y0] (mk I z) = (if y0 = 0 ∨ y0 = 1 then some (.inl (some (.int y0)), mk I z) else none) := e_L_to hd88 1 (by generalize e_L d 88 = K; generalize e_E d = E; rfl)
def hd89 : List Nat := [0, 12]
set_option maxRecDepth 20000 in
theorem B89_0 {d : Nat} {I : Nat → Nat → Int32} {z : e_Z} {b : Nat} {x1 : Int32} (hb : B2 b) : e_L d 89 0 [.ref (b + 8), .int x1] [] (mk I z) = (e_rV (e_E d 170 [.ref (b + 9), .int (I (b + 8) 1), .int x1] (mk I z)) (fun σ => e_L d 89 12 [.ref (b + 8), .int x1] [] σ) (e_H (e_L d 89) 89 9 [.ref (b + 8), .int x1])) := by
  rcases hb with rfl | rfl
  all_goals exact e_L_to hd89 6 (by generalize e_L d 89 = K; generalize e_E d = E; rfl)
set_option maxRecDepth 20000 in
theorem B89_12 {d : Nat} {I : Nat → Nat → Int32} {z : e_Z} {b : Nat} {x1 : Int32} (hb : B2 b) : e_L d 89 12 [.ref (b + 8), .int x1] [] (mk I z) = (some (.inl none, mk (e_u I (b + 8) 1 ((I (b + 8) 1) + (e_n 1))) z)) := by
  rcases hb with rfl | rfl
  all_goals exact e_L_to hd89 7 (by generalize e_L d 89 = K; generalize e_E d = E; rfl)
def hd90 : List Nat := [0, 11]
set_option maxRecDepth 20000 in
theorem B90_0 {d : Nat} {I : Nat → Nat → Int32} {z : e_Z} {b : Nat} {x1 x2 : Int32} (hb : B2 b) : e_L d 90 0 [.ref (b + 8), .int x1, .int x2] [] (mk I z) = (e_rV (e_E d 170 [.ref (b + 10), .int ((e_n (-1)) - x1), .int x2] (mk I z)) (fun σ => e_L d 90 11 [.ref (b + 8), .int x1, .int x2] [] σ) (e_H (e_L d 90) 90 8 [.ref (b + 8), .int x1, .int x2])) := by
  rcases hb with rfl | rfl
  all_goals exact e_L_to hd90 7 (by generalize e_L d 90 = K; generalize e_E d = E; rfl)
set_option maxRecDepth 20000 in
theorem B90_11 {d : Nat} {I : Nat → Nat → Int32} {z : e_Z} {b : Nat} {x1 x2 : Int32}  : e_L d 90 11 [.ref (b + 8), .int x1, .int x2] [] (mk I z) = (some (.inl none, mk I z)) := e_L_to hd90 1 (by generalize e_L d 90 = K; generalize e_E d = E; rfl)
def hd91 : List Nat := [0, 4, 20, 50, 53, 82, 90, 93, 117, 125, 128, 131, 145]
set_option maxRecDepth 20000 in
theorem B91_0 {d : Nat} {I : Nat → Nat → Int32} {z : e_Z} {b : Nat}  : e_L d 91 0 [.ref (b + 8), .null, .null, .null] [] (mk I z) = (e_L d 91 4 [.ref (b + 8), .int (e_n 0), .int (e_n 0), .null] [] (mk I z)) := e_L_to hd91 4 (by generalize e_L d 91 = K; generalize e_E d = E; rfl)
set_option maxRecDepth 20000 in
theorem B91_4 {d : Nat} {I : Nat → Nat → Int32} {z : e_Z} {b : Nat} {x1 x2 : Int32} {u3 : Value} (hb : B2 b) : e_L d 91 4 [.ref (b + 8), .int x1, .int x2, u3] [] (mk I z) = (if e_cc .ge x2 (I (b + 8) 1) = true then (e_rI (e_E d 169 [.ref (b + 11), .int (e_n 0)] (mk I z)) (fun v σ => e_L d 91 145 [.ref (b + 8), .int x1, .int x2, u3] [.int v] σ) (e_H (e_L d 91) 91 142 [.ref (b + 8), .int x1, .int x2, u3])) else (e_rI (e_E d 169 [.ref (b + 9), .int x2] (mk I z)) (fun v σ => e_L d 91 20 [.ref (b + 8), .int x1, .int x2, u3] [.int v] σ) (e_H (e_L d 91) 91 17 [.ref (b + 8), .int x1, .int x2, u3]))) := by
  rcases hb with rfl | rfl
  all_goals exact e_L_to hd91 8 (by generalize e_L d 91 = K; generalize e_E d = E; rfl)
set_option maxRecDepth 20000 in
theorem B91_20 {d : Nat} {I : Nat → Nat → Int32} {z : e_Z} {b : Nat} {x1 x2 y0 : Int32} {u3 : Value} (hb : B2 b) : e_L d 91 20 [.ref (b + 8), .int x1, .int x2, u3] [.int y0] (mk I z) = (if e_cc .lt y0 (e_n (-8)) = true then (if e_cc .ne y0 (e_n (-11)) = true then (e_rI (e_E d 169 [.ref (b + 11), .int ((x1 + e_n (-1)) - (e_n 1))] (mk I z)) (fun v σ => e_L d 91 117 [.ref (b + 8), .int (x1 + e_n (-1)), .int x2, .int y0] [.int v, .int y0, .int ((x1 + e_n (-1)) - (e_n 1)), .ref (b + 11)] σ) (e_H (e_L d 91) 91 114 [.ref (b + 8), .int (x1 + e_n (-1)), .int x2, .int y0])) else (e_rI (e_E d 169 [.ref (b + 11), .int (x1 - (e_n 1))] (mk I z)) (fun v σ => e_L d 91 82 [.ref (b + 8), .int x1, .int x2, .int y0] [.int v, .int (x1 - (e_n 1)), .ref (b + 11)] σ) (e_H (e_L d 91) 91 79 [.ref (b + 8), .int x1, .int x2, .int y0]))) else (if e_cc .lt y0 0 = true then (e_rI (e_E d 169 [.ref (b + 10), .int ((e_n (-1)) - y0)] (mk I z)) (fun v σ => e_L d 91 50 [.ref (b + 8), .int x1, .int x2, .int y0] [.int v, .int x1, .ref (b + 11)] σ) (e_H (e_L d 91) 91 47 [.ref (b + 8), .int x1, .int x2, .int y0])) else (e_L d 91 50 [.ref (b + 8), .int x1, .int x2, .int y0] [.int y0, .int x1, .ref (b + 11)] (mk I z)))) := by
  rcases hb with rfl | rfl
  all_goals exact e_L_to hd91 20 (by generalize e_L d 91 = K; generalize e_E d = E; rfl)
set_option maxRecDepth 20000 in
theorem B91_50 {d : Nat} {I : Nat → Nat → Int32} {z : e_Z} {b : Nat} {x1 x2 x3 y1 y2 : Int32}  : e_L d 91 50 [.ref (b + 8), .int x1, .int x2, .int x3] [.int y2, .int y1, .ref (b + 11)] (mk I z) = (e_rV (e_E d 170 [.ref (b + 11), .int y1, .int y2] (mk I z)) (fun σ => e_L d 91 53 [.ref (b + 8), .int x1, .int x2, .int x3] [] σ) (e_H (e_L d 91) 91 50 [.ref (b + 8), .int x1, .int x2, .int x3])) := e_L_to hd91 1 (by generalize e_L d 91 = K; generalize e_E d = E; rfl)
set_option maxRecDepth 20000 in
theorem B91_53 {d : Nat} {I : Nat → Nat → Int32} {z : e_Z} {b : Nat} {x1 x2 x3 : Int32}  : e_L d 91 53 [.ref (b + 8), .int x1, .int x2, .int x3] [] (mk I z) = (e_L d 91 131 [.ref (b + 8), .int (x1 + e_n 1), .int x2, .int x3] [] (mk I z)) := e_L_to hd91 2 (by generalize e_L d 91 = K; generalize e_E d = E; rfl)
set_option maxRecDepth 20000 in
theorem B91_82 {d : Nat} {I : Nat → Nat → Int32} {z : e_Z} {b : Nat} {x1 x2 x3 y1 y2 : Int32}  : e_L d 91 82 [.ref (b + 8), .int x1, .int x2, .int x3] [.int y2, .int y1, .ref (b + 11)] (mk I z) = (if e_cc .ne y2 0 = true then (e_L d 91 90 [.ref (b + 8), .int x1, .int x2, .int x3] [.int (e_n 0), .int y1, .ref (b + 11)] (mk I z)) else (e_L d 91 90 [.ref (b + 8), .int x1, .int x2, .int x3] [.int (e_n 1), .int y1, .ref (b + 11)] (mk I z))) := e_L_to hd91 3 (by generalize e_L d 91 = K; generalize e_E d = E; rfl)
set_option maxRecDepth 20000 in
theorem B91_90 {d : Nat} {I : Nat → Nat → Int32} {z : e_Z} {b : Nat} {x1 x2 x3 y1 y2 : Int32}  : e_L d 91 90 [.ref (b + 8), .int x1, .int x2, .int x3] [.int y2, .int y1, .ref (b + 11)] (mk I z) = (e_rV (e_E d 170 [.ref (b + 11), .int y1, .int y2] (mk I z)) (fun σ => e_L d 91 93 [.ref (b + 8), .int x1, .int x2, .int x3] [] σ) (e_H (e_L d 91) 91 90 [.ref (b + 8), .int x1, .int x2, .int x3])) := e_L_to hd91 1 (by generalize e_L d 91 = K; generalize e_E d = E; rfl)
set_option maxRecDepth 20000 in
theorem B91_93 {d : Nat} {I : Nat → Nat → Int32} {z : e_Z} {b : Nat} {x1 x2 x3 : Int32}  : e_L d 91 93 [.ref (b + 8), .int x1, .int x2, .int x3] [] (mk I z) = (e_L d 91 131 [.ref (b + 8), .int x1, .int x2, .int x3] [] (mk I z)) := e_L_to hd91 1 (by generalize e_L d 91 = K; generalize e_E d = E; rfl)
set_option maxRecDepth 20000 in
theorem B91_117 {d : Nat} {I : Nat → Nat → Int32} {z : e_Z} {b : Nat} {x1 x2 x3 y1 y2 y3 : Int32} (hb : B2 b) : e_L d 91 117 [.ref (b + 8), .int x1, .int x2, .int x3] [.int y3, .int y2, .int y1, .ref (b + 11)] (mk I z) = (e_rI (e_E d 169 [.ref (b + 11), .int x1] (mk I z)) (fun v σ => e_L d 91 125 [.ref (b + 8), .int x1, .int x2, .int x3] [.int v, .int y3, .int y2, .int y1, .ref (b + 11)] σ) (e_H (e_L d 91) 91 122 [.ref (b + 8), .int x1, .int x2, .int x3])) := by
  rcases hb with rfl | rfl
  all_goals exact e_L_to hd91 4 (by generalize e_L d 91 = K; generalize e_E d = E; rfl)
set_option maxRecDepth 20000 in
theorem B91_125 {d : Nat} {I : Nat → Nat → Int32} {z : e_Z} {b : Nat} {x1 x2 x3 y1 y2 y3 y4 : Int32}  : e_L d 91 125 [.ref (b + 8), .int x1, .int x2, .int x3] [.int y4, .int y3, .int y2, .int y1, .ref (b + 11)] (mk I z) = (e_rI (e_E d 92 [.int y2, .int y3, .int y4] (mk I z)) (fun v σ => e_L d 91 128 [.ref (b + 8), .int x1, .int x2, .int x3] [.int v, .int y1, .ref (b + 11)] σ) (e_H (e_L d 91) 91 125 [.ref (b + 8), .int x1, .int x2, .int x3])) := e_L_to hd91 1 (by generalize e_L d 91 = K; generalize e_E d = E; rfl)
set_option maxRecDepth 20000 in
theorem B91_128 {d : Nat} {I : Nat → Nat → Int32} {z : e_Z} {b : Nat} {x1 x2 x3 y1 y2 : Int32}  : e_L d 91 128 [.ref (b + 8), .int x1, .int x2, .int x3] [.int y2, .int y1, .ref (b + 11)] (mk I z) = (e_rV (e_E d 170 [.ref (b + 11), .int y1, .int y2] (mk I z)) (fun σ => e_L d 91 131 [.ref (b + 8), .int x1, .int x2, .int x3] [] σ) (e_H (e_L d 91) 91 128 [.ref (b + 8), .int x1, .int x2, .int x3])) := e_L_to hd91 1 (by generalize e_L d 91 = K; generalize e_E d = E; rfl)
set_option maxRecDepth 20000 in
theorem B91_131 {d : Nat} {I : Nat → Nat → Int32} {z : e_Z} {b : Nat} {x1 x2 x3 : Int32}  : e_L d 91 131 [.ref (b + 8), .int x1, .int x2, .int x3] [] (mk I z) = (e_L d 91 4 [.ref (b + 8), .int x1, .int (x2 + e_n 1), .int x3] [] (mk I z)) := e_L_to hd91 2 (by generalize e_L d 91 = K; generalize e_E d = E; rfl)
set_option maxRecDepth 20000 in
theorem B91_145 {d : Nat} {I : Nat → Nat → Int32} {z : e_Z} {b : Nat} {x1 x2 y0 : Int32} {u3 : Value}  : e_L d 91 145 [.ref (b + 8), .int x1, .int x2, u3] [.int y0] (mk I z) = (some (.inl (some (.int y0)), mk I z)) := e_L_to hd91 1 (by generalize e_L d 91 = K; generalize e_E d = E; rfl)
def hd92 : List Nat := [0, 48, 56, 61, 62, 74, 75, 76, 86, 87, 97, 98, 102, 106, 110, 121]
set_option maxRecDepth 20000 in
theorem B92_0 {d : Nat} {I : Nat → Nat → Int32} {z : e_Z} {x0 x1 x2 : Int32}  : e_L d 92 0 [.int x0, .int x1, .int x2] [] (mk I z) = (e_L d 92 (e_sel [((-16), 106), ((-15), 102), ((-14), 98), ((-13), 87), ((-12), 76), ((-11), 110), ((-10), 62), ((-9), 48)] 110 x0) [.int x0, .int x1, .int x2] [] (mk I z)) := e_L_to hd92 1 (by generalize e_L d 92 = K; generalize e_E d = E; rfl)
set_option maxRecDepth 20000 in
theorem B92_48 {d : Nat} {I : Nat → Nat → Int32} {z : e_Z} {x0 x1 x2 : Int32}  : e_L d 92 48 [.int x0, .int x1, .int x2] [] (mk I z) = (if e_cc .ne x1 0 = true then (e_L d 92 56 [.int x0, .int x1, .int x2] [] (mk I z)) else (if e_cc .eq x2 0 = true then (e_L d 92 61 [.int x0, .int x1, .int x2] [.int (e_n 0)] (mk I z)) else (e_L d 92 56 [.int x0, .int x1, .int x2] [] (mk I z)))) := e_L_to hd92 5 (by generalize e_L d 92 = K; generalize e_E d = E; rfl)
set_option maxRecDepth 20000 in
theorem B92_56 {d : Nat} {I : Nat → Nat → Int32} {z : e_Z} {x0 x1 x2 : Int32}  : e_L d 92 56 [.int x0, .int x1, .int x2] [] (mk I z) = (e_L d 92 61 [.int x0, .int x1, .int x2] [.int (e_n 1)] (mk I z)) := e_L_to hd92 2 (by generalize e_L d 92 = K; generalize e_E d = E; rfl)
set_option maxRecDepth 20000 in
theorem B92_61 {d : Nat} {I : Nat → Nat → Int32} {z : e_Z} {x0 x1 x2 y0 : Int32}  : e_L d 92 61 [.int x0, .int x1, .int x2] [.int y0] (mk I z) = (some (.inl (some (.int y0)), mk I z)) := e_L_to hd92 1 (by generalize e_L d 92 = K; generalize e_E d = E; rfl)
set_option maxRecDepth 20000 in
theorem B92_62 {d : Nat} {I : Nat → Nat → Int32} {z : e_Z} {x0 x1 x2 : Int32}  : e_L d 92 62 [.int x0, .int x1, .int x2] [] (mk I z) = (if e_cc .eq x1 0 = true then (e_L d 92 74 [.int x0, .int x1, .int x2] [] (mk I z)) else (if e_cc .eq x2 0 = true then (e_L d 92 74 [.int x0, .int x1, .int x2] [] (mk I z)) else (e_L d 92 75 [.int x0, .int x1, .int x2] [.int (e_n 1)] (mk I z)))) := e_L_to hd92 6 (by generalize e_L d 92 = K; generalize e_E d = E; rfl)
set_option maxRecDepth 20000 in
theorem B92_74 {d : Nat} {I : Nat → Nat → Int32} {z : e_Z} {x0 x1 x2 : Int32}  : e_L d 92 74 [.int x0, .int x1, .int x2] [] (mk I z) = (e_L d 92 75 [.int x0, .int x1, .int x2] [.int (e_n 0)] (mk I z)) := e_L_to hd92 1 (by generalize e_L d 92 = K; generalize e_E d = E; rfl)
set_option maxRecDepth 20000 in
theorem B92_75 {d : Nat} {I : Nat → Nat → Int32} {z : e_Z} {x0 x1 x2 y0 : Int32}  : e_L d 92 75 [.int x0, .int x1, .int x2] [.int y0] (mk I z) = (some (.inl (some (.int y0)), mk I z)) := e_L_to hd92 1 (by generalize e_L d 92 = K; generalize e_E d = E; rfl)
set_option maxRecDepth 20000 in
theorem B92_76 {d : Nat} {I : Nat → Nat → Int32} {z : e_Z} {x0 x1 x2 : Int32}  : e_L d 92 76 [.int x0, .int x1, .int x2] [] (mk I z) = (if e_cc .ge x1 x2 = true then (e_L d 92 86 [.int x0, .int x1, .int x2] [.int (e_n 0)] (mk I z)) else (e_L d 92 86 [.int x0, .int x1, .int x2] [.int (e_n 1)] (mk I z))) := e_L_to hd92 5 (by generalize e_L d 92 = K; generalize e_E d = E; rfl)
set_option maxRecDepth 20000 in
theorem B92_86 {d : Nat} {I : Nat → Nat → Int32} {z : e_Z} {x0 x1 x2 y0 : Int32}  : e_L d 92 86 [.int x0, .int x1, .int x2] [.int y0] (mk I z) = (some (.inl (some (.int y0)), mk I z)) := e_L_to hd92 1 (by generalize e_L d 92 = K; generalize e_E d = E; rfl)
set_option maxRecDepth 20000 in
theorem B92_87 {d : Nat} {I : Nat → Nat → Int32} {z : e_Z} {x0 x1 x2 : Int32}  : e_L d 92 87 [.int x0, .int x1, .int x2] [] (mk I z) = (if e_cc .ne x1 x2 = true then (e_L d 92 97 [.int x0, .int x1, .int x2] [.int (e_n 0)] (mk I z)) else (e_L d 92 97 [.int x0, .int x1, .int x2] [.int (e_n 1)] (mk I z))) := e_L_to hd92 5 (by generalize e_L d 92 = K; generalize e_E d = E; rfl)
set_option maxRecDepth 20000 in
theorem B92_97 {d : Nat} {I : Nat → Nat → Int32} {z : e_Z} {x0 x1 x2 y0 : Int32}  : e_L d 92 97 [.int x0, .int x1, .int x2] [.int y0] (mk I z) = (some (.inl (some (.int y0)), mk I z)) := e_L_to hd92 1 (by generalize e_L d 92 = K; generalize e_E d = E; rfl)
set_option maxRecDepth 20000 in
theorem B92_98 {d : Nat} {I : Nat → Nat → Int32} {z : e_Z} {x0 x1 x2 : Int32}  : e_L d 92 98 [.int x0, .int x1, .int x2] [] (mk I z) = (some (.inl (some (.int (x1 + x2))), mk I z)) := e_L_to hd92 4 (by generalize e_L d 92 = K; generalize e_E d = E; rfl)
set_option maxRecDepth 20000 in
theorem B92_102 {d : Nat} {I : Nat → Nat → Int32} {z : e_Z} {x0 x1 x2 : Int32}  : e_L d 92 102 [.int x0, .int x1, .int x2] [] (mk I z) = (some (.inl (some (.int (x1 - x2))), mk I z)) := e_L_to hd92 4 (by generalize e_L d 92 = K; generalize e_E d = E; rfl)
set_option maxRecDepth 20000 in
theorem B92_106 {d : Nat} {I : Nat → Nat → Int32} {z : e_Z} {x0 x1 x2 : Int32}  : e_L d 92 106 [.int x0, .int x1, .int x2] [] (mk I z) = (some (.inl (some (.int (x1 * x2))), mk I z)) := e_L_to hd92 4 (by generalize e_L d 92 = K; generalize e_E d = E; rfl)
set_option maxRecDepth 20000 in
theorem B92_110 {d : Nat} {I : Nat → Nat → Int32} {z : e_Z} {x0 x1 x2 : Int32}  : e_L d 92 110 [.int x0, .int x1, .int x2] [] (mk I z) = (if e_cc .ne x2 0 = true then (if x2 = 0 then none else (e_L d 92 121 [.int x0, .int x1, .int x2] [.int (x1 / x2)] (mk I z))) else (e_L d 92 121 [.int x0, .int x1, .int x2] [.int (e_n 0)] (mk I z))) := e_L_to hd92 5 (by generalize e_L d 92 = K; generalize e_E d = E; rfl)
set_option maxRecDepth 20000 in
theorem B92_121 {d : Nat} {I : Nat → Nat → Int32} {z : e_Z} {x0 x1 x2 y0 : Int32}  : e_L d 92 121 [.int x0, .int x1, .int x2] [.int y0] (mk I z) = (some (.inl (some (.int y0)), mk I z)) := e_L_to hd92 1 (by generalize e_L d 92 = K; generalize e_E d = E; rfl)
end RA
