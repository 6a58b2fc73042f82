section EY
section Inv
variable {p : Program} {l : Launch} {e : Env} {R : Room} {s : State} {m : MethodId} {args : Array Value} {below : List Frame} {meth : Method} {c : Code} {H : Heap} {locs : List Loc} {cells slots : Nat} {Q : State → Prop}
variable {mi pc idx y rc np rk d mc ms : Nat} {LS : Array Slot} {ad : Nat → Nat} {σ σ1 : e_S} {G : e_G} {A : Nat → Prop} {As RT : List Value} {Qc : Array Value → State → Outcome → State → Prop} {XC : String → State → State → Prop} {free : Addr → Prop} {Pc : Array Value → State → Prop}
theorem e_run_S (F : e_Fix p s m args meth c mi) (KS : e_KS G s) (hC : Met l (e_yn y) (e_ws y) (e_rm d σ σ1) Pc Qc (e_c σ1 - e_c σ) (e_s σ1 - e_s σ) free) (hmr : e_look (e_mr (e_own mi)) idx = some (y, rc, np, rk)) (hy : y < 9000) (hrc : rc = 0) (hpre : PreS s H Pc As) (hlen : As.length = np) (hsize : LS.size = e_mL mi) (hW : (RT.map fun v => v.category).sum ≤ 8) (hd : decode (e_cb mi) pc = .ok (.invokestatic idx, 3))
    (hR : d + 41 ≤ R.frames ∧ 60 * (d + 1) + 400 ≤ R.locals) (hf : cells + (e_c σ1 - e_c σ) ≤ R.cells ∧ slots + (e_s σ1 - e_s σ) ≤ R.slots) : va_Run p l e R s m args below meth c H locs cells slots (e_c σ1 - e_c σ) (e_s σ1 - e_s σ) (F0 m pc LS (As.reverse ++ RT)) RT (Qc As.toArray) free := by
  obtain ⟨hx, hb, hml, hown, hts, hlk, hnm, hrt, ho⟩ := F
  obtain ⟨m1, m2, m3, ⟨cp, inst, kp, se, ini, m4, m5, m6, m7⟩, m8, m9, m10, m11, m12⟩ := e_mr_ok ho hmr hy
  obtain ⟨q1, q2, q3, q4, q5, q6, q7, q8, q9⟩ := e_mp_ok m4
  have hstat := q1 (m5 hrc)
  have hU := e_ws_U m2 m3
  have hRm : (e_rm d σ σ1).frames + 1 ≤ R.frames ∧ 8 + (e_mL y + 11) + (e_rm d σ σ1).locals ≤ R.locals := ⟨by show d + 40 + 1 ≤ _; omega, by show 8 + (e_mL y + 11) + (60 * d + 400) ≤ _; omega⟩
  rcases m1 with hl | ⟨hl, -, hh, -⟩
  · by_cases hh : e_hh y = []
    · exact va_runS ⟨hx, hb, hml, hown, hts⟩ hC (va_cwS (ws' := e_U) np hts (e_good (fun w hw => by
        rcases List.mem_append.mp hw with h | h
        · simp only [List.mem_cons, List.not_mem_nil, or_false] at h
          rcases h with rfl | rfl | rfl
          · exact hl
          · exact hstat
          · exact q4
        · exact hU w h)) (by unfold e_ws; rw [e_cw_nil hh]) rfl rfl ⟨q6.1, q6.2, m8⟩ hRm) hpre rfl hlen hsize rfl (lv_room hW) hd hf
    · exact vx_runSW ⟨hx, hb, hml, hown, hts⟩ hC (vx_cwSW (ws' := e_U) np hts (e_good (fun w hw => by
        rcases List.mem_append.mp hw with h | h
        · simp only [List.mem_cons, List.not_mem_nil, or_false] at h
          rcases h with rfl | rfl | rfl
          · exact hl
          · exact hstat
          · exact q4
        · exact hU w h)) (by unfold e_ws; rw [e_cw_cons hh]) rfl rfl ⟨q6.1, q6.2, m8⟩ hRm) hpre rfl hlen hsize rfl (lv_room hW) hd hf
  · exact va_runSN ⟨hx, hb, hml, hown, hts⟩ hC ⟨va_cnB (ws' := e_U) np hts (e_good hU) (by unfold e_ws; rw [e_cw_nil hh]) rfl rfl (KS.2.1 _ hl) (hts _ q4) ⟨q6.1, q6.2, m8⟩ hRm, hts _ hstat, trivial⟩ hpre rfl hlen hsize rfl (lv_room hW) hd hf
theorem e_run_V {b : Addr} (F : e_Fix p s m args meth c mi) (KS : e_KS G s) (hC : Met l (e_yn y) (e_ws y) (e_rm d σ σ1) Pc Qc (e_c σ1 - e_c σ) (e_s σ1 - e_s σ) free) (hmr : e_look (e_mr (e_own mi)) idx = some (y, rc, np, rk)) (hy : y < 9000) (hrc : rc ≠ 0) (hnm0 : (e_yn y).name ≠ "<init>") (hh : e_hh y = []) (hpre : PreV s H (e_yn y).cls b Pc As) (hlen : As.length = np) (hsize : LS.size = e_mL mi) (hW : (RT.map fun v => v.category).sum ≤ 8) (hd : decode (e_cb mi) pc = .ok (.invokevirtual idx, 3))
    (hR : d + 41 ≤ R.frames ∧ 60 * (d + 1) + 400 ≤ R.locals) (hf : cells + (e_c σ1 - e_c σ) ≤ R.cells ∧ slots + (e_s σ1 - e_s σ) ≤ R.slots) : va_Run p l e R s m args below meth c H locs cells slots (e_c σ1 - e_c σ) (e_s σ1 - e_s σ) (F0 m pc LS (As.reverse ++ .ref b :: RT)) RT (Qc (Value.ref b :: As).toArray) free := by
  obtain ⟨hx, hb, hml, hown, hts, hlk, hnm, hrt, ho⟩ := F
  obtain ⟨m1, m2, m3, ⟨cp, inst, kp, se, ini, m4, m5, m6, m7⟩, m8, m9, m10, m11, m12⟩ := e_mr_ok ho hmr hy
  obtain ⟨q1, q2, q3, q4, q5, q6, q7, q8, q9⟩ := e_mp_ok m4
  have hinst := q2 (m6 hrc)
  have hU := e_ws_U m2 m3
  have hRm : (e_rm d σ σ1).frames + 1 ≤ R.frames ∧ 8 + (e_mL y + 11) + (e_rm d σ σ1).locals ≤ R.locals := ⟨by show d + 40 + 1 ≤ _; omega, by show 8 + (e_mL y + 11) + (60 * d + 400) ≤ _; omega⟩
  have hsel : Cond.selects (e_yn y).cls (e_yn y) (e_yn y) ∈ e_U := by
    rcases m7 hrc with h | h
    · exact absurd h hnm0
    · exact q3 h
  rcases m1 with hl | ⟨hl, h9, -⟩
  · exact va_runV ⟨hx, hb, hml, hown, hts⟩ hC (cwV (ws' := e_U) np hts (e_good (fun w hw => by
      rcases List.mem_append.mp hw with h | h
      · simp only [List.mem_cons, List.not_mem_nil, or_false] at h
        rcases h with rfl | rfl | rfl | rfl
        · exact hl
        · exact hinst
        · exact hsel
        · exact q4
      · exact hU w h)) (by unfold e_ws; rw [e_cw_nil hh]) rfl rfl ⟨rfl, q6.1, q6.2, m8⟩ hRm) hpre rfl hlen hsize rfl (lv_room hW) hd hf
  · rcases h9 with h9 | h9
    · exact absurd h9 hrc
    · exact absurd h9 hnm0
theorem e_run_I {b : Addr} (F : e_Fix p s m args meth c mi) (KS : e_KS G s) (hC : Met l (e_yn y) (e_ws y) (e_rm d σ σ1) Pc Qc (e_c σ1 - e_c σ) (e_s σ1 - e_s σ) free) (hmr : e_look (e_mr (e_own mi)) idx = some (y, rc, np, rk)) (hy : y < 9000) (hrc : rc ≠ 0) (hnm0 : (e_yn y).name = "<init>") (hh : e_hh y = []) (hrt0 : e_rt y = none) (hpre : PreS s H Pc (.ref b :: As)) (hlen : As.length = np) (hsize : LS.size = e_mL mi) (hW : (RT.map fun v => v.category).sum ≤ 8) (hd : decode (e_cb mi) pc = .ok (.invokespecial idx, 3))
    (hR : d + 41 ≤ R.frames ∧ 60 * (d + 1) + 400 ≤ R.locals) (hf : cells + (e_c σ1 - e_c σ) ≤ R.cells ∧ slots + (e_s σ1 - e_s σ) ≤ R.slots) : va_Run p l e R s m args below meth c H locs cells slots (e_c σ1 - e_c σ) (e_s σ1 - e_s σ) (F0 m pc LS (As.reverse ++ .ref b :: RT)) RT (Qc (Value.ref b :: As).toArray) free := by
  obtain ⟨hx, hb, hml, hown, hts, hlk, hnm, hrt, ho⟩ := F
  obtain ⟨m1, m2, m3, ⟨cp, inst, kp, se, ini, m4, m5, m6, m7⟩, m8, m9, m10, m11, m12⟩ := e_mr_ok ho hmr hy
  obtain ⟨q1, q2, q3, q4, q5, q6, q7, q8, q9⟩ := e_mp_ok m4
  have hinst := q2 (m6 hrc)
  have hU := e_ws_U m2 m3
  have hRm : (e_rm d σ σ1).frames + 1 ≤ R.frames ∧ 8 + (e_mL y + 11) + (e_rm d σ σ1).locals ≤ R.locals := ⟨by show d + 40 + 1 ≤ _; omega, by show 8 + (e_mL y + 11) + (60 * d + 400) ≤ _; omega⟩
  rcases m1 with hl | ⟨hl, -, -⟩
  · exact va_runI ⟨hx, hb, hml, hown, hts⟩ hC (cwI (bytes := e_cb y) (maxL := e_mL y) (ws' := e_U) np hts (e_good hU) (by unfold e_ws; rw [e_cw_nil hh, hrt0]) rfl rfl (hts _ q4) (hts _ hl) (hts _ hinst) hnm0 ⟨q6.1, q6.2, m8⟩ hRm) hpre rfl hlen hsize rfl (lv_room hW) hd hf
  · exact va_runIN ⟨hx, hb, hml, hown, hts⟩ hC ⟨va_cnB (ret := none) (ws' := e_U) np hts (e_good hU) (by unfold e_ws; rw [e_cw_nil hh, hrt0]) rfl rfl (KS.2.1 _ hl) (hts _ q4) ⟨q6.1, q6.2, m8⟩ hRm, hnm0, hts _ hinst⟩ hpre rfl hlen hsize rfl (lv_room hW) hd hf
theorem e_run_SX (F : e_Fix p s m args meth c mi) (hC : vx_Met l (e_yn y) (e_ws y) (e_rm d σ σ1) Pc Qc XC (e_c σ1 - e_c σ) (e_s σ1 - e_s σ) free) (hmr : e_look (e_mr (e_own mi)) idx = some (y, rc, np, rk)) (hy : y < 9000) (hrc : rc = 0) (hh : e_hh y = []) (hnn : Cond.methodLink (e_on (e_own mi)) idx (e_yn y) ∈ e_U) (hpre : PreS s H Pc As) (hlen : As.length = np) (hsize : LS.size = e_mL mi) (hW : (RT.map fun v => v.category).sum ≤ 8) (hd : decode (e_cb mi) pc = .ok (.invokestatic idx, 3))
    (hR : d + 41 ≤ R.frames ∧ 60 * (d + 1) + 400 ≤ R.locals) (hf : cells + (e_c σ1 - e_c σ) ≤ R.cells ∧ slots + (e_s σ1 - e_s σ) ≤ R.slots) : vx_Run p l e R s m args below meth c H locs cells slots (e_c σ1 - e_c σ) (e_s σ1 - e_s σ) (F0 m pc LS (As.reverse ++ RT)) RT (Qc As.toArray) XC free := by
  obtain ⟨hx, hb, hml, hown, hts, hlk, hnm, hrt, ho⟩ := F
  obtain ⟨m1, m2, m3, ⟨cp, inst, kp, se, ini, m4, m5, m6, m7⟩, m8, m9, m10, m11, m12⟩ := e_mr_ok ho hmr hy
  obtain ⟨q1, q2, q3, q4, q5, q6, q7, q8, q9⟩ := e_mp_ok m4
  have hstat := q1 (m5 hrc)
  have hU := e_ws_U m2 m3
  have hRm : (e_rm d σ σ1).frames + 1 ≤ R.frames ∧ 8 + (e_mL y + 11) + (e_rm d σ σ1).locals ≤ R.locals := ⟨by show d + 40 + 1 ≤ _; omega, by show 8 + (e_mL y + 11) + (60 * d + 400) ≤ _; omega⟩
  exact vx_runS ⟨hx, hb, hml, hown, hts⟩ hC (va_cwS (ws' := e_U) np hts (e_good (fun w hw => by
        rcases List.mem_append.mp hw with h | h
        · simp only [List.mem_cons, List.not_mem_nil, or_false] at h
          rcases h with rfl | rfl | rfl
          · exact hnn
          · exact hstat
          · exact q4
        · exact hU w h)) (by unfold e_ws; rw [e_cw_nil hh]) rfl rfl ⟨q6.1, q6.2, m8⟩ hRm) hpre rfl hlen hsize rfl (lv_room hW) hd hf
theorem e_run_VX {b : Addr} (F : e_Fix p s m args meth c mi) (hC : vx_Met l (e_yn y) (e_ws y) (e_rm d σ σ1) Pc Qc XC (e_c σ1 - e_c σ) (e_s σ1 - e_s σ) free) (hmr : e_look (e_mr (e_own mi)) idx = some (y, rc, np, rk)) (hy : y < 9000) (hrc : rc ≠ 0) (hnm0 : (e_yn y).name ≠ "<init>") (hh : e_hh y = []) (hpre : PreV s H (e_yn y).cls b Pc As) (hlen : As.length = np) (hsize : LS.size = e_mL mi) (hW : (RT.map fun v => v.category).sum ≤ 8) (hd : decode (e_cb mi) pc = .ok (.invokevirtual idx, 3))
    (hR : d + 41 ≤ R.frames ∧ 60 * (d + 1) + 400 ≤ R.locals) (hf : cells + (e_c σ1 - e_c σ) ≤ R.cells ∧ slots + (e_s σ1 - e_s σ) ≤ R.slots) : vx_Run p l e R s m args below meth c H locs cells slots (e_c σ1 - e_c σ) (e_s σ1 - e_s σ) (F0 m pc LS (As.reverse ++ .ref b :: RT)) RT (Qc (Value.ref b :: As).toArray) XC free := by
  obtain ⟨hx, hb, hml, hown, hts, hlk, hnm, hrt, ho⟩ := F
  obtain ⟨m1, m2, m3, ⟨cp, inst, kp, se, ini, m4, m5, m6, m7⟩, m8, m9, m10, m11, m12⟩ := e_mr_ok ho hmr hy
  obtain ⟨q1, q2, q3, q4, q5, q6, q7, q8, q9⟩ := e_mp_ok m4
  have hinst := q2 (m6 hrc)
  have hU := e_ws_U m2 m3
  have hRm : (e_rm d σ σ1).frames + 1 ≤ R.frames ∧ 8 + (e_mL y + 11) + (e_rm d σ σ1).locals ≤ R.locals := ⟨by show d + 40 + 1 ≤ _; omega, by show 8 + (e_mL y + 11) + (60 * d + 400) ≤ _; omega⟩
  have hsel : Cond.selects (e_yn y).cls (e_yn y) (e_yn y) ∈ e_U := by
    rcases m7 hrc with h | h
    · exact absurd h hnm0
    · exact q3 h
  rcases m1 with hl | ⟨hl, h9, -⟩
  · exact vx_runV ⟨hx, hb, hml, hown, hts⟩ hC (cwV (ws' := e_U) np hts (e_good (fun w hw => by
      rcases List.mem_append.mp hw with h | h
      · simp only [List.mem_cons, List.not_mem_nil, or_false] at h
        rcases h with rfl | rfl | rfl | rfl
        · exact hl
        · exact hinst
        · exact hsel
        · exact q4
      · exact hU w h)) (by unfold e_ws; rw [e_cw_nil hh]) rfl rfl ⟨rfl, q6.1, q6.2, m8⟩ hRm) hpre rfl hlen hsize rfl (lv_room hW) hd hf
  · rcases h9 with h9 | h9
    · exact absurd h9 hrc
    · exact absurd h9 hnm0
end Inv
end EY
