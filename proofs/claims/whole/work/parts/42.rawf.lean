section RF
def hd326 : List Nat := [0, 18]
set_option maxRecDepth 20000 in
theorem B326_0 {d : Nat} {I : Nat → Nat → Int32} {z : e_Z} {x0 x1 : Int32}  : e_L d 326 0 [.int x0, .int x1, .null] [] (mk I z) = (if x1 = 0 then none else (if e_cc .ge (x0 ^^^ x1) 0 = true then (e_L d 326 18 [.int x0, .int x1, .int (x0 - x0 / x1 * x1)] [] (mk I z)) else (if e_cc .eq (x0 - x0 / x1 * x1) 0 = true then (e_L d 326 18 [.int x0, .int x1, .int (x0 - x0 / x1 * x1)] [] (mk I z)) else (some (.inl (some (.int ((x0 - x0 / x1 * x1) + x1))), mk I z))))) := e_L_to hd326 14 (by generalize e_L d 326 = K; generalize e_E d = E; rfl)
set_option maxRecDepth 20000 in
theorem B326_18 {d : Nat} {I : Nat → Nat → Int32} {z : e_Z} {x0 x1 x2 : Int32}  : e_L d 326 18 [.int x0, .int x1, .int x2] [] (mk I z) = (some (.inl (some (.int x2)), mk I z)) := e_L_to hd326 2 (by generalize e_L d 326 = K; generalize e_E d = E; rfl)
def hd329 : List Nat := [0]
set_option maxRecDepth 20000 in
theorem B329_0 {d : Nat} {I : Nat → Nat → Int32} {z : e_Z} {x0 : Int32}  : e_L d 329 0 [.int x0] [] (mk I z) = (some (.inl (some (.int ((((((((x0 - ((e_ush x0 (e_n 1)) &&& (1431655765))) &&& (858993459)) + ((e_ush (x0 - ((e_ush x0 (e_n 1)) &&& (1431655765))) (e_n 2)) &&& (858993459))) + (e_ush (((x0 - ((e_ush x0 (e_n 1)) &&& (1431655765))) &&& (858993459)) + ((e_ush (x0 - ((e_ush x0 (e_n 1)) &&& (1431655765))) (e_n 2)) &&& (858993459))) (e_n 4))) &&& (252645135)) + (e_ush (((((x0 - ((e_ush x0 (e_n 1)) &&& (1431655765))) &&& (858993459)) + ((e_ush (x0 - ((e_ush x0 (e_n 1)) &&& (1431655765))) (e_n 2)) &&& (858993459))) + (e_ush (((x0 - ((e_ush x0 (e_n 1)) &&& (1431655765))) &&& (858993459)) + ((e_ush (x0 - ((e_ush x0 (e_n 1)) &&& (1431655765))) (e_n 2)) &&& (858993459))) (e_n 4))) &&& (252645135)) (e_n 8))) + (e_ush ((((((x0 - ((e_ush x0 (e_n 1)) &&& (1431655765))) &&& (858993459)) + ((e_ush (x0 - ((e_ush x0 (e_n 1)) &&& (1431655765))) (e_n 2)) &&& (858993459))) + (e_ush (((x0 - ((e_ush x0 (e_n 1)) &&& (1431655765))) &&& (858993459)) + ((e_ush (x0 - ((e_ush x0 (e_n 1)) &&& (1431655765))) (e_n 2)) &&& (858993459))) (e_n 4))) &&& (252645135)) + (e_ush (((((x0 - ((e_ush x0 (e_n 1)) &&& (1431655765))) &&& (858993459)) + ((e_ush (x0 - ((e_ush x0 (e_n 1)) &&& (1431655765))) (e_n 2)) &&& (858993459))) + (e_ush (((x0 - ((e_ush x0 (e_n 1)) &&& (1431655765))) &&& (858993459)) + ((e_ush (x0 - ((e_ush x0 (e_n 1)) &&& (1431655765))) (e_n 2)) &&& (858993459))) (e_n 4))) &&& (252645135)) (e_n 8))) (e_n 16))) &&& (e_n 63)))), mk I z)) := e_L_to hd329 42 (by generalize e_L d 329 = K; generalize e_E d = E; rfl)
def hd330 : List Nat := [0, 9]
set_option maxRecDepth 20000 in
theorem B330_0 {d : Nat} {I : Nat → Nat → Int32} {z : e_Z} {w : Nat}  : e_L d 330 0 [.ref w] [] (mk I z) = (e_gsF 41 0 w (fun v => (e_al (mk I z) v (fun v3 => (e_ck (mk I z) 41 w (e_rI (e_E d 332 [.ref w] (mk I z)) (fun v σ => e_L d 330 9 [.ref w] [.int v, .int v3] σ) (e_H (e_L d 330) 330 6 [.ref w]))))))) := e_L_to hd330 5 (by generalize e_L d 330 = K; generalize e_E d = E; rfl)
set_option maxRecDepth 20000 in
theorem B330_9 {d : Nat} {I : Nat → Nat → Int32} {z : e_Z} {w : Nat} {y0 y1 : Int32}  : e_L d 330 9 [.ref w] [.int y1, .int y0] (mk I z) = (some (.inl (some (.int (e_shr y0 y1))), mk I z)) := e_L_to hd330 2 (by generalize e_L d 330 = K; generalize e_E d = E; rfl)
def hd331 : List Nat := [0, 4, 15]
set_option maxRecDepth 20000 in
theorem B331_0 {d : Nat} {I : Nat → Nat → Int32} {z : e_Z} {w : Nat} {x1 : Int32}  : e_L d 331 0 [.ref w, .int x1] [] (mk I z) = (e_ck (mk I z) 41 w (e_rI (e_E d 333 [.ref w] (mk I z)) (fun v σ => e_L d 331 4 [.ref w, .int x1] [.int v] σ) (e_H (e_L d 331) 331 1 [.ref w, .int x1]))) := e_L_to hd331 2 (by generalize e_L d 331 = K; generalize e_E d = E; rfl)
set_option maxRecDepth 20000 in
theorem B331_4 {d : Nat} {I : Nat → Nat → Int32} {z : e_Z} {w : Nat} {x1 y0 : Int32}  : e_L d 331 4 [.ref w, .int x1] [.int y0] (mk I z) = (if e_cc .eq y0 0 = true then (e_gsF 41 0 w (fun v => none)) else (e_gsF 41 0 w (fun v => (e_rI (e_E d 335 [.ref v, .int x1] (mk I z)) (fun v σ => e_L d 331 15 [.ref w, .int x1] [.int v] σ) (e_H (e_L d 331) 331 12 [.ref w, .int x1]))))) := e_L_to hd331 5 (by generalize e_L d 331 = K; generalize e_E d = E; rfl)
set_option maxRecDepth 20000 in
theorem B331_15 {d : Nat} {I : Nat → Nat → Int32} {z : e_Z} {w : Nat} {x1 y0 : Int32}  : e_L d 331 15 [.ref w, .int x1] [.int y0] (mk I z) = (if vp_nar .char y0 = y0 then some (.inl (some (.int y0)), mk I z) else none) := e_L_to hd331 1 (by generalize e_L d 331 = K; generalize e_E d = E; rfl)
def hd332 : List Nat := [0, 14]
set_option maxRecDepth 20000 in
theorem B332_0 {d : Nat} {I : Nat → Nat → Int32} {z : e_Z} {w : Nat}  : e_L d 332 0 [.ref w] [] (mk I z) = (if e_cc .eq 1 0 = true then (e_L d 332 14 [.ref w] [.int (e_n 1)] (mk I z)) else (e_gsI 41 1 w (fun v => (e_L d 332 14 [.ref w] [.int v] (mk I z))))) := e_L_to hd332 5 (by generalize e_L d 332 = K; generalize e_E d = E; rfl)
set_option maxRecDepth 20000 in
theorem B332_14 {d : Nat} {I : Nat → Nat → Int32} {z : e_Z} {w : Nat} {y0 : Int32}  : e_L d 332 14 [.ref w] [.int y0] (mk I z) = (if vp_nar .byte y0 = y0 then some (.inl (some (.int y0)), mk I z) else none) := e_L_to hd332 1 (by generalize e_L d 332 = K; generalize e_E d = E; rfl)
def hd333 : List Nat := [0, 3, 6, 10, 13, 17, 18]
set_option maxRecDepth 20000 in
theorem B333_0 {d : Nat} {I : Nat → Nat → Int32} {z : e_Z} {w : Nat}  : e_L d 333 0 [.ref w] [] (mk I z) = (e_L d 333 3 [.ref w] [.int 1] (mk I z)) := e_L_to hd333 1 (by generalize e_L d 333 = K; generalize e_E d = E; rfl)
set_option maxRecDepth 20000 in
theorem B333_3 {d : Nat} {I : Nat → Nat → Int32} {z : e_Z} {w : Nat} {y0 : Int32}  : e_L d 333 3 [.ref w] [.int y0] (mk I z) = (if e_cc .eq y0 0 = true then (e_L d 333 17 [.ref w] [] (mk I z)) else (e_L d 333 6 [.ref w] [] (mk I z))) := e_L_to hd333 1 (by generalize e_L d 333 = K; generalize e_E d = E; rfl)
set_option maxRecDepth 20000 in
theorem B333_6 {d : Nat} {I : Nat → Nat → Int32} {z : e_Z} {w : Nat}  : e_L d 333 6 [.ref w] [] (mk I z) = (e_gsI 41 1 w (fun v => (e_L d 333 10 [.ref w] [.int v] (mk I z)))) := e_L_to hd333 2 (by generalize e_L d 333 = K; generalize e_E d = E; rfl)
set_option maxRecDepth 20000 in
theorem B333_10 {d : Nat} {I : Nat → Nat → Int32} {z : e_Z} {w : Nat} {y0 : Int32}  : e_L d 333 10 [.ref w] [.int y0] (mk I z) = (if e_cc .ne y0 0 = true then (e_L d 333 17 [.ref w] [] (mk I z)) else (e_L d 333 13 [.ref w] [] (mk I z))) := e_L_to hd333 1 (by generalize e_L d 333 = K; generalize e_E d = E; rfl)
set_option maxRecDepth 20000 in
theorem B333_13 {d : Nat} {I : Nat → Nat → Int32} {z : e_Z} {w : Nat}  : e_L d 333 13 [.ref w] [] (mk I z) = (e_L d 333 18 [.ref w] [.int (e_n 1)] (mk I z)) := e_L_to hd333 2 (by generalize e_L d 333 = K; generalize e_E d = E; rfl)
set_option maxRecDepth 20000 in
theorem B333_17 {d : Nat} {I : Nat → Nat → Int32} {z : e_Z} {w : Nat}  : e_L d 333 17 [.ref w] [] (mk I z) = (e_L d 333 18 [.ref w] [.int (e_n 0)] (mk I z)) := e_L_to hd333 1 (by generalize e_L d 333 = K; generalize e_E d = E; rfl)
set_option maxRecDepth 20000 in
theorem B333_18 {d : Nat} {I : Nat → Nat → Int32} {z : e_Z} {w : Nat} {y0 : Int32}  : e_L d 333 18 [.ref w] [.int y0] (mk I z) = (if y0 = 0 ∨ y0 = 1 then some (.inl (some (.int y0)), mk I z) else none) := e_L_to hd333 1 (by generalize e_L d 333 = K; generalize e_E d = E; rfl)
def hd334 : List Nat := [0, 8]
set_option maxRecDepth 20000 in
theorem B334_0 {d : Nat} {I : Nat → Nat → Int32} {z : e_Z} {x0 x1 : Int32}  : e_L d 334 0 [.int x0, .int x1] [] (mk I z) = (e_rI (e_E d 336 [.int x0, .int x1, .null] (mk I z)) (fun v σ => e_L d 334 8 [.int x0, .int x1] [.int v] σ) (e_H (e_L d 334) 334 5 [.int x0, .int x1])) := e_L_to hd334 4 (by generalize e_L d 334 = K; generalize e_E d = E; rfl)
set_option maxRecDepth 20000 in
theorem B334_8 {d : Nat} {I : Nat → Nat → Int32} {z : e_Z} {x0 x1 y0 : Int32}  : e_L d 334 8 [.int x0, .int x1] [.int y0] (mk I z) = (some (.inl none, mk I z)) := e_L_to hd334 2 (by generalize e_L d 334 = K; generalize e_E d = E; rfl)
def hd335 : List Nat := [0, 6, 8, 9]
set_option maxRecDepth 20000 in
theorem B335_0 {d : Nat} {I : Nat → Nat → Int32} {z : e_Z} {w : Nat} {x1 : Int32}  : e_L d 335 0 [.ref w, .int x1] [] (mk I z) = (e_al (mk I z) w (fun v3 => (e_rV (e_E d 334 [.int x1, .int v3] (mk I z)) (fun σ => e_L d 335 6 [.ref w, .int x1] [] σ) (e_H (e_L d 335) 335 3 [.ref w, .int x1])))) := e_L_to hd335 4 (by generalize e_L d 335 = K; generalize e_E d = E; rfl)
set_option maxRecDepth 20000 in
theorem B335_6 {d : Nat} {I : Nat → Nat → Int32} {z : e_Z} {w : Nat} {x1 : Int32}  : e_L d 335 6 [.ref w, .int x1] [] (mk I z) = (e_L d 335 8 [.ref w, .int x1] [.int x1, .ref w] (mk I z)) := e_L_to hd335 2 (by generalize e_L d 335 = K; generalize e_E d = E; rfl)
set_option maxRecDepth 20000 in
theorem B335_8 {d : Nat} {I : Nat → Nat → Int32} {z : e_Z} {w : Nat} {x1 y1 : Int32}  : e_L d 335 8 [.ref w, .int x1] [.int y1, .ref w] (mk I z) = (e_za (mk I z) w y1 (fun v1 => (e_L d 335 9 [.ref w, .int x1] [.int v1] (mk I z)))) := e_L_to hd335 1 (by generalize e_L d 335 = K; generalize e_E d = E; rfl)
set_option maxRecDepth 20000 in
theorem B335_9 {d : Nat} {I : Nat → Nat → Int32} {z : e_Z} {w : Nat} {x1 y0 : Int32}  : e_L d 335 9 [.ref w, .int x1] [.int y0] (mk I z) = (if vp_nar .char (e_i2c (y0 &&& (e_n 255))) = e_i2c (y0 &&& (e_n 255)) then some (.inl (some (.int (e_i2c (y0 &&& (e_n 255))))), mk I z) else none) := e_L_to hd335 4 (by generalize e_L d 335 = K; generalize e_E d = E; rfl)
def hd336 : List Nat := [0, 9]
set_option maxRecDepth 20000 in
theorem B336_0 {d : Nat} {I : Nat → Nat → Int32} {z : e_Z} {x0 x1 : Int32}  : e_L d 336 0 [.int x0, .int x1, .null] [] (mk I z) = (if e_cc .lt x0 0 = true then (e_L d 336 9 [.int x0, .int x1, .null] [] (mk I z)) else (if e_cc .lt x0 x1 = true then (some (.inl (some (.int x0)), mk I z)) else (e_L d 336 9 [.int x0, .int x1, .null] [] (mk I z)))) := e_L_to hd336 7 (by generalize e_L d 336 = K; generalize e_E d = E; rfl)
set_option maxRecDepth 20000 in
theorem B336_9 {d : Nat} {I : Nat → Nat → Int32} {z : e_Z} {x0 x1 : Int32}  : e_L d 336 9 [.int x0, .int x1, .null] [] (mk I z) = none := e_L_to hd336 1 (by generalize e_L d 336 = K; generalize e_E d = E; rfl)
end RF
