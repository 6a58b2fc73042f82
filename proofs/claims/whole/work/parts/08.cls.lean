section EC
/-- the kinds of an object's fields: 0 int, 1 boolean, 2 long, 3 reference -/
def e_cf (c : Nat) : List Nat := (bif Nat.blt c 7 then (bif Nat.blt c 3 then (bif Nat.blt c 1 then [] else (bif Nat.blt c 2 then [3, 3, 0, 3, 3, 3, 0, 3, 3, 3, 0, 0, 3, 3] else [3, 3, 0, 0, 0, 0, 1, 0, 0, 0, 3, 3, 3, 3, 3])) else (bif Nat.blt c 5 then (bif Nat.blt c 4 then [0, 0, 0, 3] else [0, 0, 3, 3, 3, 3, 3, 3]) else (bif Nat.blt c 6 then [3, 0, 0] else [0, 0, 0, 0, 1, 3, 3, 3, 3]))) else (bif Nat.blt c 10 then (bif Nat.blt c 8 then [3, 3, 0, 0] else (bif Nat.blt c 9 then [3, 0, 3, 3] else [3, 3, 0, 0, 0, 3, 3, 3])) else (bif Nat.blt c 12 then (bif Nat.blt c 11 then [3, 0, 0, 3, 3, 3, 0, 0, 0, 0] else [3, 0, 0, 3, 3, 3, 3, 3, 3, 1, 3, 3, 3]) else (bif Nat.blt c 13 then [0, 0, 0, 0, 0, 0, 0, 0, 3, 3, 3, 3, 3, 3, 3, 3, 3, 3, 3, 0, 0, 0, 3, 0, 0, 0, 0, 0, 0, 0, 2, 0, 0, 0, 0, 0, 0, 0, 0, 0, 0, 3, 3, 3, 3, 3, 3, 3, 3, 3, 3, 3, 3, 3, 3, 3, 0, 3, 3, 3, 0, 0, 0, 3, 3, 3, 3, 3, 3, 0, 3, 3, 3, 3, 3, 3, 0, 3, 3, 0, 3, 1, 0, 0, 3, 3, 3] else []))))
def e_fty (ci : Nat) : Nat → FieldType := (bif Nat.blt ci 6 then (bif Nat.blt ci 3 then (bif Nat.blt ci 1 then tyX1 else (bif Nat.blt ci 2 then tyX2 else tyX3)) else (bif Nat.blt ci 4 then tyX4 else (bif Nat.blt ci 5 then tyX5 else tyX6))) else (bif Nat.blt ci 9 then (bif Nat.blt ci 7 then tyX7 else (bif Nat.blt ci 8 then tyX8 else tyX9)) else (bif Nat.blt ci 10 then tyX10 else (bif Nat.blt ci 11 then tyX12 else tyX13))))
def e_tyc : Nat → FieldType → Bool
  | 0, .int => true
  | 1, .boolean => true
  | 2, .long => true
  | 3, .object _ => true
  | 3, .array _ => true
  | _, _ => false
def e_lp0 : List Nat := [265, 267, 269, 271, 273, 275, 277, 279, 281, 283, 285, 287, 289, 291]
def e_lp1 : List Nat := [478, 480, 482, 484, 486, 488, 490, 492, 494, 496, 498, 500, 502, 504, 506]
def e_lp2 : List Nat := [522, 524, 526, 528]
def e_lp3 : List Nat := [183, 185, 187, 189, 191, 193, 195, 197]
def e_lp4 : List Nat := [544, 546, 548]
def e_lp5 : List Nat := [395, 397, 399, 401, 403, 405, 407, 409, 411]
def e_lp6 : List Nat := [345, 347, 349, 351]
def e_lp7 : List Nat := [211, 213, 215, 217]
def e_lp8 : List Nat := [427, 429, 431, 433, 435, 437, 439, 441]
def e_lp9 : List Nat := [319, 321, 323, 325, 327, 329, 331, 333, 335, 337]
def e_lp10 : List Nat := [584, 586, 588, 590, 592, 594, 596, 598, 600, 602, 604, 606, 608]
def e_lp11 : List Nat := [1657, 1659, 1661, 1663, 1665, 1667, 1669, 1671, 1673, 1675, 1677, 1679, 1681, 1683, 1685, 1687, 1689, 1691, 1693, 1695, 1697, 1699, 1701, 1703, 1705, 1707, 1709, 1711, 1713, 1715, 1717, 1719, 1721, 1723, 1725, 1727, 1729, 1731, 1733, 1735, 1737, 1739, 1741, 1743, 1745, 1747, 1749, 1751, 1753, 1755, 1757, 1759, 1761, 1763, 1765, 1767, 1769, 1771, 1773, 1775, 1777, 1779, 1781, 1783, 1785, 1787, 1789, 1791, 1793, 1795, 1797, 1799, 1801, 1803, 1805, 1807, 1809, 1811, 1813, 1815, 1817, 1819, 1821, 1823, 1825, 1827, 1829]
def e_lp (ci : Nat) : List Nat := (bif Nat.blt ci 6 then (bif Nat.blt ci 3 then (bif Nat.blt ci 1 then e_lp0 else (bif Nat.blt ci 2 then e_lp1 else e_lp2)) else (bif Nat.blt ci 4 then e_lp3 else (bif Nat.blt ci 5 then e_lp4 else e_lp5))) else (bif Nat.blt ci 9 then (bif Nat.blt ci 7 then e_lp6 else (bif Nat.blt ci 8 then e_lp7 else e_lp8)) else (bif Nat.blt ci 10 then e_lp9 else (bif Nat.blt ci 11 then e_lp10 else e_lp11))))
def e_ip : List (Nat × Nat) := [(156, 121), (445, 128), (510, 129), (162, 122), (532, 130), (361, 127), (295, 124), (202, 123), (355, 126), (301, 125), (148, 120), (1565, 133)]
theorem e_U_at {i : Nat} {w : Cond} (h : lw_tbl[i]? = some w) (g : goodWord w = true) : w ∈ e_U := List.mem_filter.mpr ⟨List.mem_of_getElem? h, g⟩
def e_clc (ci : Nat) : Bool := match vwCl[ci]? with
  | none => true
  | some q => decide ((e_lp ci).length = q.2.2) && decide ((e_cf (ci + 1)).length = q.2.2) && (List.range q.2.2).all (fun k => decide (lw_tbl[(e_lp ci).getD k 99999]? = some (u_lay q.1 q.2.1 k)) && goodWord (u_lay q.1 q.2.1 k) && e_tyc ((e_cf (ci + 1)).getD k 9) (e_fty ci k) && decide (parseFieldDescriptor (q.2.1 k).2.2.1 = some (e_fty ci k)) && (List.range q.2.2).all (fun b => Nat.beq k b || decide ((q.2.1 k).2.1 ≠ (q.2.1 b).2.1)))
    && decide (lw_tbl[((e_ip).getD ci (0, 0)).1]? = some (.instantiable q.1 q.2.2)) && decide (lw_tbl[((e_ip).getD ci (0, 0)).2]? = some (.initialized q.1))
theorem e_clc_0 : e_clc 0 = true := by decide +kernel
theorem e_clc_1 : e_clc 1 = true := by decide +kernel
theorem e_clc_2 : e_clc 2 = true := by decide +kernel
theorem e_clc_3 : e_clc 3 = true := by decide +kernel
theorem e_clc_4 : e_clc 4 = true := by decide +kernel
theorem e_clc_5 : e_clc 5 = true := by decide +kernel
theorem e_clc_6 : e_clc 6 = true := by decide +kernel
theorem e_clc_7 : e_clc 7 = true := by decide +kernel
theorem e_clc_8 : e_clc 8 = true := by decide +kernel
theorem e_clc_9 : e_clc 9 = true := by decide +kernel
theorem e_clc_10 : e_clc 10 = true := by decide +kernel
theorem e_clc_11 : e_clc 11 = true := by decide +kernel
theorem e_cl_ok {ci : Nat} {q : vw_C} (h : vwCl[ci]? = some q) : (∀ w ∈ u_ws q.1 q.2.1 q.2.2, w ∈ e_U) ∧ (∀ k, k < q.2.2 → parseFieldDescriptor (q.2.1 k).2.2.1 = some (e_fty ci k)) ∧ (∀ a, a < q.2.2 → ∀ b, b < q.2.2 → a ≠ b → (q.2.1 a).2.1 ≠ (q.2.1 b).2.1) ∧ (∀ k, k < q.2.2 → e_tyc ((e_cf (ci + 1)).getD k 9) (e_fty ci k) = true) ∧ (e_cf (ci + 1)).length = q.2.2 ∧ Cond.instantiable q.1 q.2.2 ∈ e_U ∧ Cond.initialized q.1 ∈ e_U := by
  have hci : ci < 12 := (List.getElem?_eq_some_iff.mp h).1
  have hk : e_clc ci = true := by
    match ci, hci with
    | 0, _ => exact e_clc_0
    | 1, _ => exact e_clc_1
    | 2, _ => exact e_clc_2
    | 3, _ => exact e_clc_3
    | 4, _ => exact e_clc_4
    | 5, _ => exact e_clc_5
    | 6, _ => exact e_clc_6
    | 7, _ => exact e_clc_7
    | 8, _ => exact e_clc_8
    | 9, _ => exact e_clc_9
    | 10, _ => exact e_clc_10
    | 11, _ => exact e_clc_11
    | n + 12, hn => exact absurd hn (by omega)
  unfold e_clc at hk
  rw [h] at hk
  simp only [Bool.and_eq_true, decide_eq_true_eq, List.all_eq_true, List.mem_range, Bool.or_eq_true] at hk
  obtain ⟨⟨⟨⟨h1, h2⟩, h3⟩, h4⟩, h5⟩ := hk
  refine ⟨fun w hw => ?_, fun k hk => (h3 k hk).1.2, fun a ha b hb hab => ?_, fun k hk => (h3 k hk).1.1.2, h2, e_U_at h4 rfl, e_U_at h5 rfl⟩
  · obtain ⟨k, hk, rfl⟩ := List.mem_map.mp hw
    exact e_U_at (h3 k (List.mem_range.mp hk)).1.1.1.1 (h3 k (List.mem_range.mp hk)).1.1.1.2
  · rcases (h3 a ha).2 b hb with q | q
    · exact absurd (Nat.eq_of_beq_eq_true q) hab
    · exact q
def e_frc (o : Nat) (q : Nat × Nat × Nat × Nat) (i : Nat) : Bool := bif Nat.ble 40 q.2.1 then true else match vwCl[q.2.1 - 1]? with
  | none => false
  | some r => decide (lw_tbl[i]? = some (.fieldLink (e_on o) q.1 r.1 (r.2.1 q.2.2.1).2.1 (r.2.1 q.2.2.1).2.2.1)) && decide (q.2.2.1 < r.2.2) && decide ((r.2.1 q.2.2.1).1 = r.1) && decide ((e_cf q.2.1).getD q.2.2.1 9 = q.2.2.2) && Nat.ble 1 q.2.1
def e_frA (o : Nat) : Bool := Nat.beq (e_fr o).length (e_frp o).length && ((e_fr o).zip (e_frp o)).all (fun q => e_frc o q.1 q.2)
theorem e_frA_0 : e_frA 0 = true := by decide +kernel
theorem e_frA_1 : e_frA 1 = true := by decide +kernel
theorem e_frA_2 : e_frA 2 = true := by decide +kernel
theorem e_frA_3 : e_frA 3 = true := by decide +kernel
theorem e_frA_4 : e_frA 4 = true := by decide +kernel
theorem e_frA_5 : e_frA 5 = true := by decide +kernel
theorem e_frA_6 : e_frA 6 = true := by decide +kernel
theorem e_frA_7 : e_frA 7 = true := by decide +kernel
theorem e_frA_8 : e_frA 8 = true := by decide +kernel
theorem e_frA_9 : e_frA 9 = true := by decide +kernel
theorem e_frA_10 : e_frA 10 = true := by decide +kernel
theorem e_frA_11 : e_frA 11 = true := by decide +kernel
theorem e_frA_12 : e_frA 12 = true := by decide +kernel
theorem e_frA_13 : e_frA 13 = true := by decide +kernel
theorem e_frA_14 : e_frA 14 = true := by decide +kernel
theorem e_frA_15 : e_frA 15 = true := by decide +kernel
theorem e_frA_16 : e_frA 16 = true := by decide +kernel
theorem e_frA_17 : e_frA 17 = true := by decide +kernel
theorem e_frA_18 : e_frA 18 = true := by decide +kernel
theorem e_frA_19 : e_frA 19 = true := by decide +kernel
theorem e_frA_20 : e_frA 20 = true := by decide +kernel
theorem e_frA_ok : ∀ o, o < 21 → e_frA o = true := fun o h => by
  match o, h with
  | 0, _ => exact e_frA_0
  | 1, _ => exact e_frA_1
  | 2, _ => exact e_frA_2
  | 3, _ => exact e_frA_3
  | 4, _ => exact e_frA_4
  | 5, _ => exact e_frA_5
  | 6, _ => exact e_frA_6
  | 7, _ => exact e_frA_7
  | 8, _ => exact e_frA_8
  | 9, _ => exact e_frA_9
  | 10, _ => exact e_frA_10
  | 11, _ => exact e_frA_11
  | 12, _ => exact e_frA_12
  | 13, _ => exact e_frA_13
  | 14, _ => exact e_frA_14
  | 15, _ => exact e_frA_15
  | 16, _ => exact e_frA_16
  | 17, _ => exact e_frA_17
  | 18, _ => exact e_frA_18
  | 19, _ => exact e_frA_19
  | 20, _ => exact e_frA_20
  | n + 21, hn => exact absurd hn (by omega)
theorem e_look_mem {α : Type} : ∀ {l : List (Nat × α)} {n : Nat} {v : α}, e_look l n = some v → (n, v) ∈ l
  | [], _, _, h => by cases h
  | (k, x) :: r, n, v, h => by
    unfold e_look at h
    cases hb : Nat.beq k n with
    | true =>
      rw [hb] at h
      rw [Nat.eq_of_beq_eq_true hb]
      cases h
      exact List.mem_cons_self
    | false =>
      rw [hb] at h
      exact List.mem_cons_of_mem _ (e_look_mem h)
theorem e_zip_at {α β : Type} : ∀ {a : List α} {b : List β} {x : α}, a.length = b.length → x ∈ a → ∃ y, (x, y) ∈ a.zip b
  | [], _, _, _, h => by cases h
  | a :: as, [], _, h, _ => by cases h
  | a :: as, b :: bs, x, hl, h => by
    rcases List.mem_cons.mp h with rfl | h
    · exact ⟨b, List.mem_cons_self⟩
    · obtain ⟨y, hy⟩ := e_zip_at (by simpa using hl) h
      exact ⟨y, List.mem_cons_of_mem _ hy⟩
/-- a field by its pool number -/
theorem e_fr_ok {o idx c k ty : Nat} (ho : o < 21) (h : e_look (e_fr o) idx = some (c, k, ty)) (hc : c < 40) : ∃ r : vw_C, 1 ≤ c ∧ vwCl[c - 1]? = some r ∧ k < r.2.2 ∧ (r.2.1 k).1 = r.1 ∧ (e_cf c).getD k 9 = ty ∧ Cond.fieldLink (e_on o) idx r.1 (r.2.1 k).2.1 (r.2.1 k).2.2.1 ∈ e_U := by
  have h1 := e_frA_ok o ho
  unfold e_frA at h1
  rw [Bool.and_eq_true] at h1
  obtain ⟨i, hi⟩ := e_zip_at (Nat.eq_of_beq_eq_true h1.1) (e_look_mem h)
  have h2 := List.all_eq_true.mp h1.2 _ hi
  unfold e_frc at h2
  rw [show Nat.ble 40 c = false from by
    cases hb : Nat.ble 40 c with
    | false => rfl
    | true => exact absurd (Nat.le_of_ble_eq_true hb) (by omega)] at h2
  simp only [cond_false] at h2
  split at h2
  · cases h2
  · rename_i r hr
    simp only [Bool.and_eq_true, decide_eq_true_eq] at h2
    obtain ⟨⟨⟨⟨g1, g2⟩, g3⟩, g4⟩, g5⟩ := h2
    exact ⟨r, Nat.le_of_ble_eq_true g5, hr, g2, g3, g4, e_U_at g1 rfl⟩
end EC
