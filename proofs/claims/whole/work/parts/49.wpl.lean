/-! what is enough for a run from here, of each method: printed by gen_wp.py out of the table -/
set_option maxHeartbeats 4000000 in
theorem B_L_guard_0 {d : Nat} {w : zm} {F : Int32 → zm → Prop} (a1 : Int32) (a2 : Int32) (a3 : Int32)
    (H : zGo d m_X8_guard 0 [.ref 1000, .int a1, .int a2, .int a3, zJ, zJ] [] (yz w) (zXi (fun v2 w1 => F (0 : Int32) (yuB w1 1076 (Int32.toNatClampNeg (0 : Int32)) (Int32.toInt64 v2))) (fun E w3 => (E = 0 ∧ F (1 : Int32) w3)))) :
    zGo (d + 1) m_L_guard 0 [.ref 1000, .int a1, .int a2, .int a3, .ref 1076, zJ] [] (yz w) (zKi F) := by
  refine g_s (pc' := 2) rfl ?_
  refine g_psh (pc' := 3) (v' := .int 0) rfl (congrArg Value.int kc_i0) ?_
  refine g_s (pc' := 4) rfl ?_
  refine g_s (pc' := 5) rfl ?_
  refine g_s (pc' := 6) rfl ?_
  refine g_s (pc' := 7) rfl ?_
  refine g_xcalli (a := m_X8_guard) (as := [.ref 1000, .int a1, .int a2, .int a3]) (rest := [.int (0 : Int32), .ref 1076]) (ls0 := [.ref 1000, .int a1, .int a2, .int a3, zJ, zJ]) (pc' := 10) (t_virt rfl rfl rfl rfl rfl rfl) rfl rfl rfl rfl ?_
  refine zGo.mono H (zXi_mono ?_ ?_)
  · intro v2 w1 H
    refine g_s (pc' := 11) (st' := [.long (Int32.toInt64 v2), .int (0 : Int32), .ref 1076]) rfl ?_
    refine g_last (pc' := 12) rfl rfl rfl rfl rfl rfl ⟨by decide, by decide⟩ ?_
    refine g_s (pc' := 19) rfl ?_
    refine g_psh (pc' := 20) (v' := .int 0) rfl (congrArg Value.int kc_i0) ?_
    exact g_reti rfl rfl H
  · intro E w3 H
    obtain ⟨rfl, H⟩ := H
    refine ⟨(5, 17), [.ref 1000, .int a1, .int a2, .int a3, .ref 1076, zJ], rfl, zst1_of rfl (Or.inr rfl) rfl, ?_⟩
    show zGo (d + 1) m_L_guard 17 [.ref 1000, .int a1, .int a2, .int a3, .ref 1076, zJ] [] (yz w3) (zKi F)
    refine g_psh (pc' := 18) (v' := .int 1) rfl (congrArg Value.int kc_i1) ?_
    exact g_reti rfl rfl H
set_option maxHeartbeats 4000000 in
theorem B_L_heat_0 {d : Nat} {w : zm} {F : Int32 → zm → Prop} (a1 : Int32)
    (H : zGo d m_X8_heat 0 [.ref 1000, .int a1] [] (yz w) (zXi (fun v2 w1 => F (0 : Int32) (yuB w1 1076 (Int32.toNatClampNeg (0 : Int32)) (Int32.toInt64 v2))) (fun E w3 => (E = 0 ∧ F (1 : Int32) w3)))) :
    zGo (d + 1) m_L_heat 0 [.ref 1000, .int a1, .ref 1076, zJ] [] (yz w) (zKi F) := by
  refine g_s (pc' := 1) rfl ?_
  refine g_psh (pc' := 2) (v' := .int 0) rfl (congrArg Value.int kc_i0) ?_
  refine g_s (pc' := 3) rfl ?_
  refine g_s (pc' := 4) rfl ?_
  refine g_xcalli (a := m_X8_heat) (as := [.ref 1000, .int a1]) (rest := [.int (0 : Int32), .ref 1076]) (ls0 := [.ref 1000, .int a1]) (pc' := 7) (t_virt rfl rfl rfl rfl rfl rfl) rfl rfl rfl rfl ?_
  refine zGo.mono H (zXi_mono ?_ ?_)
  · intro v2 w1 H
    refine g_s (pc' := 8) (st' := [.long (Int32.toInt64 v2), .int (0 : Int32), .ref 1076]) rfl ?_
    refine g_last (pc' := 9) rfl rfl rfl rfl rfl rfl ⟨by decide, by decide⟩ ?_
    refine g_s (pc' := 15) rfl ?_
    refine g_psh (pc' := 16) (v' := .int 0) rfl (congrArg Value.int kc_i0) ?_
    exact g_reti rfl rfl H
  · intro E w3 H
    obtain ⟨rfl, H⟩ := H
    refine ⟨(3, 13), [.ref 1000, .int a1, .ref 1076, zJ], rfl, zst1_of rfl (Or.inr rfl) rfl, ?_⟩
    show zGo (d + 1) m_L_heat 13 [.ref 1000, .int a1, .ref 1076, zJ] [] (yz w3) (zKi F)
    refine g_psh (pc' := 14) (v' := .int 1) rfl (congrArg Value.int kc_i1) ?_
    exact g_reti rfl rfl H
set_option maxHeartbeats 4000000 in
theorem B_L_invalidate_0 {d : Nat} {w : zm} {F : Int32 → zm → Prop} (a1 : Int32)
    (H : zGo d m_X8_invalidate 0 [.ref 1000, .int a1] [] (yz w) (zXi (fun v2 w1 => ((v2 = 0 → F (0 : Int32) (yuB w1 1076 (Int32.toNatClampNeg (0 : Int32)) (0 : Int64))) ∧ (¬ v2 = 0 → F (0 : Int32) (yuB w1 1076 (Int32.toNatClampNeg (0 : Int32)) (1 : Int64))))) (fun E w3 => (E = 0 ∧ F (1 : Int32) w3)))) :
    zGo (d + 1) m_L_invalidate 0 [.ref 1000, .int a1, .ref 1076, zJ] [] (yz w) (zKi F) := by
  refine g_s (pc' := 1) rfl ?_
  refine g_psh (pc' := 2) (v' := .int 0) rfl (congrArg Value.int kc_i0) ?_
  refine g_s (pc' := 3) rfl ?_
  refine g_s (pc' := 4) rfl ?_
  refine g_xcalli (a := m_X8_invalidate) (as := [.ref 1000, .int a1]) (rest := [.int (0 : Int32), .ref 1076]) (ls0 := [.ref 1000, .int a1]) (pc' := 7) (t_virt rfl rfl rfl rfl rfl rfl) rfl rfl rfl rfl ?_
  refine zGo.mono H (zXi_mono ?_ ?_)
  · intro v2 w1 H
    refine g_ifeq (pc' := 10) rfl rfl (fun hc => ?_) (fun hc => ?_)
    · replace H := H.1 hc
      refine g_psh (pc' := 15) (v' := .long 0) rfl (congrArg Value.long kc_l0) ?_
      refine g_last (pc' := 16) rfl rfl rfl rfl rfl rfl ⟨by decide, by decide⟩ ?_
      refine g_s (pc' := 22) rfl ?_
      refine g_psh (pc' := 23) (v' := .int 0) rfl (congrArg Value.int kc_i0) ?_
      exact g_reti rfl rfl H
    · replace H := H.2 hc
      refine g_psh (pc' := 11) (v' := .long 1) rfl (congrArg Value.long kc_l1) ?_
      refine g_s (pc' := 15) rfl ?_
      refine g_last (pc' := 16) rfl rfl rfl rfl rfl rfl ⟨by decide, by decide⟩ ?_
      refine g_s (pc' := 22) rfl ?_
      refine g_psh (pc' := 23) (v' := .int 0) rfl (congrArg Value.int kc_i0) ?_
      exact g_reti rfl rfl H
  · intro E w3 H
    obtain ⟨rfl, H⟩ := H
    refine ⟨(3, 20), [.ref 1000, .int a1, .ref 1076, zJ], rfl, zst1_of rfl (Or.inr rfl) rfl, ?_⟩
    show zGo (d + 1) m_L_invalidate 20 [.ref 1000, .int a1, .ref 1076, zJ] [] (yz w3) (zKi F)
    refine g_psh (pc' := 21) (v' := .int 1) rfl (congrArg Value.int kc_i1) ?_
    exact g_reti rfl rfl H
set_option maxHeartbeats 4000000 in
theorem B_L_law_33 {d : Nat} {w : zm} {F : Int32 → zm → Prop} (a4 : Int32) (ua5 : Value) (ua6 : Value) (ns : Nat) (hua5 : zisL ua5 = false)
    (H : (yk w 0 = some (.inr (9, ns))) ∧ ((((Int32.ofNat ns) - (4 : Int32)) < a4 → F (1 : Int32) w) ∧ (¬ ((Int32.ofNat ns) - (4 : Int32)) < a4 → (zin a4 ns) ∧ (((((yA w 0 (Int32.toNatClampNeg a4)) &&& (31 : Int32)).toInt < 0 ∨ 22 < ((yA w 0 (Int32.toNatClampNeg a4)) &&& (31 : Int32)).toInt) → zGo (d + 1) m_L_law 33 [.ref 0, .ref 1000, .ref 1031, .ref 1076, .int (a4 + 4), ua5, ua6, zJ] [] (yz w) (zKi F)) ∧ ((((yA w 0 (Int32.toNatClampNeg a4)) &&& (31 : Int32)).toInt = 0) → (zin (a4 + (1 : Int32)) ns) ∧ (zin (a4 + (2 : Int32)) ns) ∧ zGo d m_L_poke 0 [.ref 1000, .int (yA w 0 (Int32.toNatClampNeg (a4 + (1 : Int32)))), .int (yA w 0 (Int32.toNatClampNeg (a4 + (2 : Int32)))), .ref 1076, zJ] [] (yz w) (zKi fun v6 w5 => (yk w5 0 = some (.inr (9, ns))) ∧ (zin (a4 + (1 : Int32)) ns) ∧ (zin (a4 + (2 : Int32)) ns) ∧ zGo d m_X9_poke 0 [.ref 1031, .int (yA w5 0 (Int32.toNatClampNeg (a4 + (1 : Int32)))), .int (yA w5 0 (Int32.toNatClampNeg (a4 + (2 : Int32))))] [] (yz w5) (zKi fun v11 w10 => zGo d m_X9_thrown 0 [.ref 1031] [] (yz w10) (zKi fun v13 w12 => ((v13 = v6 → ((v6 = 0 → (((lg_cmp (yB w12 1076 (Int32.toNatClampNeg (0 : Int32))) (Int32.toInt64 v11)) = 0 → zGo (d + 1) m_L_law 33 [.ref 0, .ref 1000, .ref 1031, .ref 1076, .int (a4 + 4), .int v6, .int v11, zJ] [] (yz w12) (zKi F)) ∧ (¬ (lg_cmp (yB w12 1076 (Int32.toNatClampNeg (0 : Int32))) (Int32.toInt64 v11)) = 0 → F (0 : Int32) w12))) ∧ (¬ v6 = 0 → zGo (d + 1) m_L_law 33 [.ref 0, .ref 1000, .ref 1031, .ref 1076, .int (a4 + 4), .int v6, .int v11, zJ] [] (yz w12) (zKi F)))) ∧ (¬ v13 = v6 → F (0 : Int32) w12)))))) ∧ ((((yA w 0 (Int32.toNatClampNeg a4)) &&& (31 : Int32)).toInt = 1) → zGo d m_X8_verify 0 [.ref 1000, zJ] [] (yz w) (zKi fun v15 w14 => zGo d m_X9_verify 0 [.ref 1031, zJ] [] (yz w14) (zKi fun v17 w16 => ((v15 = v17 → zGo (d + 1) m_L_law 33 [.ref 0, .ref 1000, .ref 1031, .ref 1076, .int (a4 + 4), ua5, ua6, zJ] [] (yz w16) (zKi F)) ∧ (¬ v15 = v17 → F (0 : Int32) w16))))) ∧ ((((yA w 0 (Int32.toNatClampNeg a4)) &&& (31 : Int32)).toInt = 2) → zGo d m_X8_place 0 [.ref 1000] [] (yz w) (zKi fun v19 w18 => zGo d m_X9_place 0 [.ref 1031] [] (yz w18) (zKi fun v21 w20 => ((v19 = v21 → zGo (d + 1) m_L_law 33 [.ref 0, .ref 1000, .ref 1031, .ref 1076, .int (a4 + 4), ua5, ua6, zJ] [] (yz w20) (zKi F)) ∧ (¬ v19 = v21 → F (0 : Int32) w20))))) ∧ ((((yA w 0 (Int32.toNatClampNeg a4)) &&& (31 : Int32)).toInt = 3) → (zin (a4 + (1 : Int32)) ns) ∧ (zin (a4 + (2 : Int32)) ns) ∧ zGo d m_L_setLocal 0 [.ref 1000, .int (yA w 0 (Int32.toNatClampNeg (a4 + (1 : Int32)))), .int (yA w 0 (Int32.toNatClampNeg (a4 + (2 : Int32)))), .ref 1076, zJ] [] (yz w) (zKi fun v25 w24 => (yk w24 0 = some (.inr (9, ns))) ∧ (zin (a4 + (1 : Int32)) ns) ∧ (zin (a4 + (2 : Int32)) ns) ∧ zGo d m_X9_setLocal 0 [.ref 1031, .int (yA w24 0 (Int32.toNatClampNeg (a4 + (1 : Int32)))), .int (yA w24 0 (Int32.toNatClampNeg (a4 + (2 : Int32)))), zJ] [] (yz w24) (zKi fun v30 w29 => zGo d m_X9_thrown 0 [.ref 1031] [] (yz w29) (zKi fun v32 w31 => ((v32 = v25 → ((v25 = 0 → (((lg_cmp (yB w31 1076 (Int32.toNatClampNeg (0 : Int32))) (Int32.toInt64 v30)) = 0 → zGo (d + 1) m_L_law 33 [.ref 0, .ref 1000, .ref 1031, .ref 1076, .int (a4 + 4), .int v25, .int v30, zJ] [] (yz w31) (zKi F)) ∧ (¬ (lg_cmp (yB w31 1076 (Int32.toNatClampNeg (0 : Int32))) (Int32.toInt64 v30)) = 0 → F (0 : Int32) w31))) ∧ (¬ v25 = 0 → zGo (d + 1) m_L_law 33 [.ref 0, .ref 1000, .ref 1031, .ref 1076, .int (a4 + 4), .int v25, .int v30, zJ] [] (yz w31) (zKi F)))) ∧ (¬ v32 = v25 → F (0 : Int32) w31)))))) ∧ ((((yA w 0 (Int32.toNatClampNeg a4)) &&& (31 : Int32)).toInt = 4) → zGo d m_L_start 0 [.ref 1000, zJ] [] (yz w) (zKi fun v34 w33 => zGo d m_X9_start 0 [.ref 1031, zJ] [] (yz w33) (zKv fun w35 => zGo d m_X9_thrown 0 [.ref 1031] [] (yz w35) (zKi fun v37 w36 => ((v37 = v34 → zGo (d + 1) m_L_law 33 [.ref 0, .ref 1000, .ref 1031, .ref 1076, .int (a4 + 4), .int v34, ua6, zJ] [] (yz w36) (zKi F)) ∧ (¬ v37 = v34 → F (0 : Int32) w36)))))) ∧ ((((yA w 0 (Int32.toNatClampNeg a4)) &&& (31 : Int32)).toInt = 5) → (zin (a4 + (1 : Int32)) ns) ∧ zGo d m_L_run 0 [.ref 1000, .int (yA w 0 (Int32.toNatClampNeg (a4 + (1 : Int32)))), .ref 1076, zJ] [] (yz w) (zKi fun v40 w39 => (yk w39 0 = some (.inr (9, ns))) ∧ (zin (a4 + (1 : Int32)) ns) ∧ zGo d m_X9_run 0 [.ref 1031, .int (yA w39 0 (Int32.toNatClampNeg (a4 + (1 : Int32)))), zJ, zJ] [] (yz w39) (zKi fun v44 w43 => zGo d m_X9_thrown 0 [.ref 1031] [] (yz w43) (zKi fun v46 w45 => ((v46 = v40 → ((v40 = 0 → (((lg_cmp (yB w45 1076 (Int32.toNatClampNeg (0 : Int32))) (Int32.toInt64 v44)) = 0 → zGo (d + 1) m_L_law 33 [.ref 0, .ref 1000, .ref 1031, .ref 1076, .int (a4 + 4), .int v40, .int v44, zJ] [] (yz w45) (zKi F)) ∧ (¬ (lg_cmp (yB w45 1076 (Int32.toNatClampNeg (0 : Int32))) (Int32.toInt64 v44)) = 0 → F (0 : Int32) w45))) ∧ (¬ v40 = 0 → zGo (d + 1) m_L_law 33 [.ref 0, .ref 1000, .ref 1031, .ref 1076, .int (a4 + 4), .int v40, .int v44, zJ] [] (yz w45) (zKi F)))) ∧ (¬ v46 = v40 → F (0 : Int32) w45)))))) ∧ ((((yA w 0 (Int32.toNatClampNeg a4)) &&& (31 : Int32)).toInt = 6) → zGo d m_X8_state 0 [.ref 1000] [] (yz w) (zKi fun v48 w47 => zGo d m_X9_state 0 [.ref 1031] [] (yz w47) (zKi fun v50 w49 => ((v48 = v50 → zGo (d + 1) m_L_law 33 [.ref 0, .ref 1000, .ref 1031, .ref 1076, .int (a4 + 4), ua5, ua6, zJ] [] (yz w49) (zKi F)) ∧ (¬ v48 = v50 → F (0 : Int32) w49))))) ∧ ((((yA w 0 (Int32.toNatClampNeg a4)) &&& (31 : Int32)).toInt = 7) → zGo d m_X8_address 0 [.ref 1000] [] (yz w) (zKi fun v52 w51 => zGo d m_X9_address 0 [.ref 1031] [] (yz w51) (zKi fun v54 w53 => ((v52 = v54 → zGo (d + 1) m_L_law 33 [.ref 0, .ref 1000, .ref 1031, .ref 1076, .int (a4 + 4), ua5, ua6, zJ] [] (yz w53) (zKi F)) ∧ (¬ v52 = v54 → F (0 : Int32) w53))))) ∧ ((((yA w 0 (Int32.toNatClampNeg a4)) &&& (31 : Int32)).toInt = 8) → (zin (a4 + (1 : Int32)) ns) ∧ zGo d m_L_local 0 [.ref 1000, .int (yA w 0 (Int32.toNatClampNeg (a4 + (1 : Int32)))), .ref 1076, zJ] [] (yz w) (zKi fun v57 w56 => (yk w56 0 = some (.inr (9, ns))) ∧ (zin (a4 + (1 : Int32)) ns) ∧ zGo d m_X9_local 0 [.ref 1031, .int (yA w56 0 (Int32.toNatClampNeg (a4 + (1 : Int32))))] [] (yz w56) (zKi fun v61 w60 => zGo d m_X9_thrown 0 [.ref 1031] [] (yz w60) (zKi fun v63 w62 => ((v63 = v57 → ((v57 = 0 → (((lg_cmp (yB w62 1076 (Int32.toNatClampNeg (0 : Int32))) (Int32.toInt64 v61)) = 0 → zGo (d + 1) m_L_law 33 [.ref 0, .ref 1000, .ref 1031, .ref 1076, .int (a4 + 4), .int v57, .int v61, zJ] [] (yz w62) (zKi F)) ∧ (¬ (lg_cmp (yB w62 1076 (Int32.toNatClampNeg (0 : Int32))) (Int32.toInt64 v61)) = 0 → F (0 : Int32) w62))) ∧ (¬ v57 = 0 → zGo (d + 1) m_L_law 33 [.ref 0, .ref 1000, .ref 1031, .ref 1076, .int (a4 + 4), .int v57, .int v61, zJ] [] (yz w62) (zKi F)))) ∧ (¬ v63 = v57 → F (0 : Int32) w62)))))) ∧ ((((yA w 0 (Int32.toNatClampNeg a4)) &&& (31 : Int32)).toInt = 9) → (zin (a4 + (1 : Int32)) ns) ∧ zGo d m_L_memory 0 [.ref 1000, .int (yA w 0 (Int32.toNatClampNeg (a4 + (1 : Int32)))), .ref 1076, zJ] [] (yz w) (zKi fun v66 w65 => (yk w65 0 = some (.inr (9, ns))) ∧ (zin (a4 + (1 : Int32)) ns) ∧ zGo d m_X9_memory 0 [.ref 1031, .int (yA w65 0 (Int32.toNatClampNeg (a4 + (1 : Int32))))] [] (yz w65) (zKi fun v70 w69 => zGo d m_X9_thrown 0 [.ref 1031] [] (yz w69) (zKi fun v72 w71 => ((v72 = v66 → ((v66 = 0 → (((lg_cmp (yB w71 1076 (Int32.toNatClampNeg (0 : Int32))) (Int32.toInt64 v70)) = 0 → zGo (d + 1) m_L_law 33 [.ref 0, .ref 1000, .ref 1031, .ref 1076, .int (a4 + 4), .int v66, .int v70, zJ] [] (yz w71) (zKi F)) ∧ (¬ (lg_cmp (yB w71 1076 (Int32.toNatClampNeg (0 : Int32))) (Int32.toInt64 v70)) = 0 → F (0 : Int32) w71))) ∧ (¬ v66 = 0 → zGo (d + 1) m_L_law 33 [.ref 0, .ref 1000, .ref 1031, .ref 1076, .int (a4 + 4), .int v66, .int v70, zJ] [] (yz w71) (zKi F)))) ∧ (¬ v72 = v66 → F (0 : Int32) w71)))))) ∧ ((((yA w 0 (Int32.toNatClampNeg a4)) &&& (31 : Int32)).toInt = 10) → zGo d m_X8_height 0 [.ref 1000] [] (yz w) (zKi fun v74 w73 => zGo d m_X9_height 0 [.ref 1031] [] (yz w73) (zKi fun v76 w75 => ((v74 = v76 → zGo (d + 1) m_L_law 33 [.ref 0, .ref 1000, .ref 1031, .ref 1076, .int (a4 + 4), ua5, ua6, zJ] [] (yz w75) (zKi F)) ∧ (¬ v74 = v76 → F (0 : Int32) w75))))) ∧ ((((yA w 0 (Int32.toNatClampNeg a4)) &&& (31 : Int32)).toInt = 11) → (zin (a4 + (1 : Int32)) ns) ∧ zGo d m_L_stack 0 [.ref 1000, .int (yA w 0 (Int32.toNatClampNeg (a4 + (1 : Int32)))), .ref 1076, zJ] [] (yz w) (zKi fun v79 w78 => (yk w78 0 = some (.inr (9, ns))) ∧ (zin (a4 + (1 : Int32)) ns) ∧ zGo d m_X9_stack 0 [.ref 1031, .int (yA w78 0 (Int32.toNatClampNeg (a4 + (1 : Int32))))] [] (yz w78) (zKi fun v83 w82 => zGo d m_X9_thrown 0 [.ref 1031] [] (yz w82) (zKi fun v85 w84 => ((v85 = v79 → ((v79 = 0 → (((lg_cmp (yB w84 1076 (Int32.toNatClampNeg (0 : Int32))) (Int32.toInt64 v83)) = 0 → zGo (d + 1) m_L_law 33 [.ref 0, .ref 1000, .ref 1031, .ref 1076, .int (a4 + 4), .int v79, .int v83, zJ] [] (yz w84) (zKi F)) ∧ (¬ (lg_cmp (yB w84 1076 (Int32.toNatClampNeg (0 : Int32))) (Int32.toInt64 v83)) = 0 → F (0 : Int32) w84))) ∧ (¬ v79 = 0 → zGo (d + 1) m_L_law 33 [.ref 0, .ref 1000, .ref 1031, .ref 1076, .int (a4 + 4), .int v79, .int v83, zJ] [] (yz w84) (zKi F)))) ∧ (¬ v85 = v79 → F (0 : Int32) w84)))))) ∧ ((((yA w 0 (Int32.toNatClampNeg a4)) &&& (31 : Int32)).toInt = 12) → zGo d m_X8_emitted 0 [.ref 1000] [] (yz w) (zKi fun v87 w86 => zGo d m_X9_emitted 0 [.ref 1031] [] (yz w86) (zKi fun v89 w88 => ((v87 = v89 → zGo (d + 1) m_L_law 33 [.ref 0, .ref 1000, .ref 1031, .ref 1076, .int (a4 + 4), ua5, ua6, zJ] [] (yz w88) (zKi F)) ∧ (¬ v87 = v89 → F (0 : Int32) w88))))) ∧ ((((yA w 0 (Int32.toNatClampNeg a4)) &&& (31 : Int32)).toInt = 13) → (zin (a4 + (1 : Int32)) ns) ∧ zGo d m_L_output 0 [.ref 1000, .int (yA w 0 (Int32.toNatClampNeg (a4 + (1 : Int32)))), .ref 1076, zJ] [] (yz w) (zKi fun v92 w91 => (yk w91 0 = some (.inr (9, ns))) ∧ (zin (a4 + (1 : Int32)) ns) ∧ zGo d m_X9_output 0 [.ref 1031, .int (yA w91 0 (Int32.toNatClampNeg (a4 + (1 : Int32))))] [] (yz w91) (zKi fun v96 w95 => zGo d m_X9_thrown 0 [.ref 1031] [] (yz w95) (zKi fun v98 w97 => ((v98 = v92 → ((v92 = 0 → (((lg_cmp (yB w97 1076 (Int32.toNatClampNeg (0 : Int32))) (Int32.toInt64 v96)) = 0 → zGo (d + 1) m_L_law 33 [.ref 0, .ref 1000, .ref 1031, .ref 1076, .int (a4 + 4), .int v92, .int v96, zJ] [] (yz w97) (zKi F)) ∧ (¬ (lg_cmp (yB w97 1076 (Int32.toNatClampNeg (0 : Int32))) (Int32.toInt64 v96)) = 0 → F (0 : Int32) w97))) ∧ (¬ v92 = 0 → zGo (d + 1) m_L_law 33 [.ref 0, .ref 1000, .ref 1031, .ref 1076, .int (a4 + 4), .int v92, .int v96, zJ] [] (yz w97) (zKi F)))) ∧ (¬ v98 = v92 → F (0 : Int32) w97)))))) ∧ ((((yA w 0 (Int32.toNatClampNeg a4)) &&& (31 : Int32)).toInt = 14) → (zin (a4 + (1 : Int32)) ns) ∧ zGo d m_L_steps 0 [.ref 1000, .int (yA w 0 (Int32.toNatClampNeg (a4 + (1 : Int32)))), .ref 1076, zJ] [] (yz w) (zKi fun v101 w100 => (yk w100 0 = some (.inr (9, ns))) ∧ (zin (a4 + (1 : Int32)) ns) ∧ zGo d m_X9_steps 0 [.ref 1031, .int (yA w100 0 (Int32.toNatClampNeg (a4 + (1 : Int32))))] [] (yz w100) (zKl fun v105 w104 => zGo d m_X9_thrown 0 [.ref 1031] [] (yz w104) (zKi fun v107 w106 => ((v107 = v101 → ((v101 = 0 → (((lg_cmp (yB w106 1076 (Int32.toNatClampNeg (0 : Int32))) v105) = 0 → zGo (d + 1) m_L_law 33 [.ref 0, .ref 1000, .ref 1031, .ref 1076, .int (a4 + 4), .int v101, .long v105, zJ] [] (yz w106) (zKi F)) ∧ (¬ (lg_cmp (yB w106 1076 (Int32.toNatClampNeg (0 : Int32))) v105) = 0 → F (0 : Int32) w106))) ∧ (¬ v101 = 0 → zGo (d + 1) m_L_law 33 [.ref 0, .ref 1000, .ref 1031, .ref 1076, .int (a4 + 4), .int v101, .long v105, zJ] [] (yz w106) (zKi F)))) ∧ (¬ v107 = v101 → F (0 : Int32) w106)))))) ∧ ((((yA w 0 (Int32.toNatClampNeg a4)) &&& (31 : Int32)).toInt = 15) → (zin (a4 + (1 : Int32)) ns) ∧ zGo d m_L_heat 0 [.ref 1000, .int (yA w 0 (Int32.toNatClampNeg (a4 + (1 : Int32)))), .ref 1076, zJ] [] (yz w) (zKi fun v110 w109 => (yk w109 0 = some (.inr (9, ns))) ∧ (zin (a4 + (1 : Int32)) ns) ∧ zGo d m_X9_heat 0 [.ref 1031, .int (yA w109 0 (Int32.toNatClampNeg (a4 + (1 : Int32))))] [] (yz w109) (zKi fun v114 w113 => zGo d m_X9_thrown 0 [.ref 1031] [] (yz w113) (zKi fun v116 w115 => ((v116 = v110 → ((v110 = 0 → (((lg_cmp (yB w115 1076 (Int32.toNatClampNeg (0 : Int32))) (Int32.toInt64 v114)) = 0 → zGo (d + 1) m_L_law 33 [.ref 0, .ref 1000, .ref 1031, .ref 1076, .int (a4 + 4), .int v110, .int v114, zJ] [] (yz w115) (zKi F)) ∧ (¬ (lg_cmp (yB w115 1076 (Int32.toNatClampNeg (0 : Int32))) (Int32.toInt64 v114)) = 0 → F (0 : Int32) w115))) ∧ (¬ v110 = 0 → zGo (d + 1) m_L_law 33 [.ref 0, .ref 1000, .ref 1031, .ref 1076, .int (a4 + 4), .int v110, .int v114, zJ] [] (yz w115) (zKi F)))) ∧ (¬ v116 = v110 → F (0 : Int32) w115)))))) ∧ ((((yA w 0 (Int32.toNatClampNeg a4)) &&& (31 : Int32)).toInt = 16) → zGo d m_X8_traces 0 [.ref 1000] [] (yz w) (zKi fun v118 w117 => zGo d m_X9_traces 0 [.ref 1031] [] (yz w117) (zKi fun v120 w119 => ((v118 = v120 → zGo (d + 1) m_L_law 33 [.ref 0, .ref 1000, .ref 1031, .ref 1076, .int (a4 + 4), ua5, ua6, zJ] [] (yz w119) (zKi F)) ∧ (¬ v118 = v120 → F (0 : Int32) w119))))) ∧ ((((yA w 0 (Int32.toNatClampNeg a4)) &&& (31 : Int32)).toInt = 17) → (zin (a4 + (1 : Int32)) ns) ∧ zGo d m_L_traceAt 0 [.ref 1000, .int (yA w 0 (Int32.toNatClampNeg (a4 + (1 : Int32)))), .ref 1076, zJ] [] (yz w) (zKi fun v123 w122 => (yk w122 0 = some (.inr (9, ns))) ∧ (zin (a4 + (1 : Int32)) ns) ∧ zGo d m_X9_traceAt 0 [.ref 1031, .int (yA w122 0 (Int32.toNatClampNeg (a4 + (1 : Int32)))), zJ, zJ] [] (yz w122) (zKi fun v127 w126 => zGo d m_X9_thrown 0 [.ref 1031] [] (yz w126) (zKi fun v129 w128 => ((v129 = v123 → ((v123 = 0 → (((lg_cmp (yB w128 1076 (Int32.toNatClampNeg (0 : Int32))) (Int32.toInt64 v127)) = 0 → zGo (d + 1) m_L_law 33 [.ref 0, .ref 1000, .ref 1031, .ref 1076, .int (a4 + 4), .int v123, .int v127, zJ] [] (yz w128) (zKi F)) ∧ (¬ (lg_cmp (yB w128 1076 (Int32.toNatClampNeg (0 : Int32))) (Int32.toInt64 v127)) = 0 → F (0 : Int32) w128))) ∧ (¬ v123 = 0 → zGo (d + 1) m_L_law 33 [.ref 0, .ref 1000, .ref 1031, .ref 1076, .int (a4 + 4), .int v123, .int v127, zJ] [] (yz w128) (zKi F)))) ∧ (¬ v129 = v123 → F (0 : Int32) w128)))))) ∧ ((((yA w 0 (Int32.toNatClampNeg a4)) &&& (31 : Int32)).toInt = 18) → (zin (a4 + (1 : Int32)) ns) ∧ (zin (a4 + (2 : Int32)) ns) ∧ zGo d m_L_trace 0 [.ref 1000, .int (yA w 0 (Int32.toNatClampNeg (a4 + (1 : Int32)))), .int (yA w 0 (Int32.toNatClampNeg (a4 + (2 : Int32)))), .ref 1076, zJ] [] (yz w) (zKi fun v133 w132 => (yk w132 0 = some (.inr (9, ns))) ∧ (zin (a4 + (1 : Int32)) ns) ∧ (zin (a4 + (2 : Int32)) ns) ∧ zGo d m_X9_trace 0 [.ref 1031, .int (yA w132 0 (Int32.toNatClampNeg (a4 + (1 : Int32)))), .int (yA w132 0 (Int32.toNatClampNeg (a4 + (2 : Int32)))), zJ] [] (yz w132) (zKi fun v138 w137 => zGo d m_X9_thrown 0 [.ref 1031] [] (yz w137) (zKi fun v140 w139 => ((v140 = v133 → ((v133 = 0 → (((lg_cmp (yB w139 1076 (Int32.toNatClampNeg (0 : Int32))) (Int32.toInt64 v138)) = 0 → zGo (d + 1) m_L_law 33 [.ref 0, .ref 1000, .ref 1031, .ref 1076, .int (a4 + 4), .int v133, .int v138, zJ] [] (yz w139) (zKi F)) ∧ (¬ (lg_cmp (yB w139 1076 (Int32.toNatClampNeg (0 : Int32))) (Int32.toInt64 v138)) = 0 → F (0 : Int32) w139))) ∧ (¬ v133 = 0 → zGo (d + 1) m_L_law 33 [.ref 0, .ref 1000, .ref 1031, .ref 1076, .int (a4 + 4), .int v133, .int v138, zJ] [] (yz w139) (zKi F)))) ∧ (¬ v140 = v133 → F (0 : Int32) w139)))))) ∧ ((((yA w 0 (Int32.toNatClampNeg a4)) &&& (31 : Int32)).toInt = 19) → (zin (a4 + (1 : Int32)) ns) ∧ (zin (a4 + (2 : Int32)) ns) ∧ (zin (a4 + (3 : Int32)) ns) ∧ zGo d m_L_guard 0 [.ref 1000, .int (yA w 0 (Int32.toNatClampNeg (a4 + (1 : Int32)))), .int (yA w 0 (Int32.toNatClampNeg (a4 + (2 : Int32)))), .int (yA w 0 (Int32.toNatClampNeg (a4 + (3 : Int32)))), .ref 1076, zJ] [] (yz w) (zKi fun v145 w144 => (yk w144 0 = some (.inr (9, ns))) ∧ (zin (a4 + (1 : Int32)) ns) ∧ (zin (a4 + (2 : Int32)) ns) ∧ (zin (a4 + (3 : Int32)) ns) ∧ zGo d m_X9_guard_ 0 [.ref 1031, .int (yA w144 0 (Int32.toNatClampNeg (a4 + (1 : Int32)))), .int (yA w144 0 (Int32.toNatClampNeg (a4 + (2 : Int32)))), .int (yA w144 0 (Int32.toNatClampNeg (a4 + (3 : Int32)))), zJ, zJ, zJ] [] (yz w144) (zKi fun v151 w150 => zGo d m_X9_thrown 0 [.ref 1031] [] (yz w150) (zKi fun v153 w152 => ((v153 = v145 → ((v145 = 0 → (((lg_cmp (yB w152 1076 (Int32.toNatClampNeg (0 : Int32))) (Int32.toInt64 v151)) = 0 → zGo (d + 1) m_L_law 33 [.ref 0, .ref 1000, .ref 1031, .ref 1076, .int (a4 + 4), .int v145, .int v151, zJ] [] (yz w152) (zKi F)) ∧ (¬ (lg_cmp (yB w152 1076 (Int32.toNatClampNeg (0 : Int32))) (Int32.toInt64 v151)) = 0 → F (0 : Int32) w152))) ∧ (¬ v145 = 0 → zGo (d + 1) m_L_law 33 [.ref 0, .ref 1000, .ref 1031, .ref 1076, .int (a4 + 4), .int v145, .int v151, zJ] [] (yz w152) (zKi F)))) ∧ (¬ v153 = v145 → F (0 : Int32) w152)))))) ∧ ((((yA w 0 (Int32.toNatClampNeg a4)) &&& (31 : Int32)).toInt = 20) → zGo d m_X8_recording 0 [.ref 1000] [] (yz w) (zKi fun v155 w154 => zGo d m_X9_recording 0 [.ref 1031] [] (yz w154) (zKi fun v157 w156 => ((v155 = v157 → zGo (d + 1) m_L_law 33 [.ref 0, .ref 1000, .ref 1031, .ref 1076, .int (a4 + 4), ua5, ua6, zJ] [] (yz w156) (zKi F)) ∧ (¬ v155 = v157 → F (0 : Int32) w156))))) ∧ ((((yA w 0 (Int32.toNatClampNeg a4)) &&& (31 : Int32)).toInt = 21) → (zin (a4 + (1 : Int32)) ns) ∧ zGo d m_L_invalidate 0 [.ref 1000, .int (yA w 0 (Int32.toNatClampNeg (a4 + (1 : Int32)))), .ref 1076, zJ] [] (yz w) (zKi fun v160 w159 => (yk w159 0 = some (.inr (9, ns))) ∧ (zin (a4 + (1 : Int32)) ns) ∧ zGo d m_X9_invalidate 0 [.ref 1031, .int (yA w159 0 (Int32.toNatClampNeg (a4 + (1 : Int32)))), zJ] [] (yz w159) (zKi fun v164 w163 => zGo d m_X9_thrown 0 [.ref 1031] [] (yz w163) (zKi fun v166 w165 => ((v166 = v160 → ((v160 = 0 → ((v164 = 0 → (((lg_cmp (yB w165 1076 (Int32.toNatClampNeg (0 : Int32))) (0 : Int64)) = 0 → zGo (d + 1) m_L_law 33 [.ref 0, .ref 1000, .ref 1031, .ref 1076, .int (a4 + 4), .int v160, .int v164, zJ] [] (yz w165) (zKi F)) ∧ (¬ (lg_cmp (yB w165 1076 (Int32.toNatClampNeg (0 : Int32))) (0 : Int64)) = 0 → F (0 : Int32) w165))) ∧ (¬ v164 = 0 → (((lg_cmp (yB w165 1076 (Int32.toNatClampNeg (0 : Int32))) (1 : Int64)) = 0 → zGo (d + 1) m_L_law 33 [.ref 0, .ref 1000, .ref 1031, .ref 1076, .int (a4 + 4), .int v160, .int v164, zJ] [] (yz w165) (zKi F)) ∧ (¬ (lg_cmp (yB w165 1076 (Int32.toNatClampNeg (0 : Int32))) (1 : Int64)) = 0 → F (0 : Int32) w165))))) ∧ (¬ v160 = 0 → zGo (d + 1) m_L_law 33 [.ref 0, .ref 1000, .ref 1031, .ref 1076, .int (a4 + 4), .int v160, .int v164, zJ] [] (yz w165) (zKi F)))) ∧ (¬ v166 = v160 → F (0 : Int32) w165)))))) ∧ ((((yA w 0 (Int32.toNatClampNeg a4)) &&& (31 : Int32)).toInt = 22) → zGo d m_X8_reset 0 [.ref 1000] [] (yz w) (zKv fun w167 => zGo d m_X9_reset 0 [.ref 1031, zJ] [] (yz w167) (zKv fun w168 => zGo (d + 1) m_L_law 33 [.ref 0, .ref 1000, .ref 1031, .ref 1076, .int (a4 + 4), ua5, ua6, zJ] [] (yz w168) (zKi F)))))))) :
    zGo (d + 1) m_L_law 33 [.ref 0, .ref 1000, .ref 1031, .ref 1076, .int a4, ua5, ua6, zJ] [] (yz w) (zKi F) := by
  refine g_s (pc' := 35) rfl ?_
  refine g_s (pc' := 36) rfl ?_
  obtain ⟨hS1, H⟩ := H
  refine g_alen (pc' := 37) rfl rfl rfl rfl hS1 rfl ?_
  refine g_psh (pc' := 38) (v' := .int 4) rfl (congrArg Value.int kc_i4) ?_
  refine g_s (pc' := 39) (st' := [.int ((Int32.ofNat ns) - (4 : Int32)), .int a4]) rfl ?_
  refine g_icgt (pc' := 42) rfl rfl (fun hc => ?_) (fun hc => ?_)
  · replace H := H.1 hc
    refine g_psh (pc' := 1096) (v' := .int 1) rfl (congrArg Value.int kc_i1) ?_
    exact g_reti rfl (zbool _ (Or.inr rfl)) H
  · replace H := H.2 hc
    refine g_s (pc' := 43) rfl ?_
    refine g_s (pc' := 45) rfl ?_
    obtain ⟨hi2, H⟩ := H
    refine g_iald (pc' := 46) rfl rfl rfl rfl hS1 (Or.inr rfl) hi2 ?_
    refine g_psh (pc' := 48) (v' := .int 31) rfl (congrArg Value.int kc_b31) ?_
    refine g_s (pc' := 49) (st' := [.int ((yA w 0 (Int32.toNatClampNeg a4)) &&& (31 : Int32))]) rfl ?_
    refine g_tsw rfl (fun hx => ?_) (fun j hx hy => ?_)
    · replace H := H.1 (by omega)
      show zGo (d + 1) m_L_law 1089 [.ref 0, .ref 1000, .ref 1031, .ref 1076, .int a4, ua5, ua6, zJ] [] (yz w) (zKi F)
      refine g_inc (pc' := 1092) (ls' := [.ref 0, .ref 1000, .ref 1031, .ref 1076, .int (a4 + 4), ua5, ua6, zJ]) rfl rfl rfl kc_i4 (zst1_of rfl (Or.inr rfl) rfl) ?_
      refine g_s (pc' := 33) rfl ?_
      exact H
    · have hj : j < 23 := by omega
      match j, hj, hx with
      | 0, _, hx =>
        refine ⟨107, rfl, ?_⟩
        replace H := H.2.1 (by omega)
        show zGo (d + 1) m_L_law 156 [.ref 0, .ref 1000, .ref 1031, .ref 1076, .int a4, ua5, ua6, zJ] [] (yz w) (zKi F)
        refine g_s (pc' := 157) rfl ?_
        refine g_s (pc' := 158) rfl ?_
        refine g_s (pc' := 160) rfl ?_
        refine g_psh (pc' := 161) (v' := .int 1) rfl (congrArg Value.int kc_i1) ?_
        refine g_s (pc' := 162) (st' := [.int (a4 + (1 : Int32)), .ref 0, .ref 1000]) rfl ?_
        obtain ⟨hi3, H⟩ := H
        refine g_iald (pc' := 163) rfl rfl rfl rfl hS1 (Or.inr rfl) hi3 ?_
        refine g_s (pc' := 164) rfl ?_
        refine g_s (pc' := 166) rfl ?_
        refine g_psh (pc' := 167) (v' := .int 2) rfl (congrArg Value.int kc_i2) ?_
        refine g_s (pc' := 168) (st' := [.int (a4 + (2 : Int32)), .ref 0, .int (yA w 0 (Int32.toNatClampNeg (a4 + (1 : Int32)))), .ref 1000]) rfl ?_
        obtain ⟨hi4, H⟩ := H
        refine g_iald (pc' := 169) rfl rfl rfl rfl hS1 (Or.inr rfl) hi4 ?_
        refine g_s (pc' := 170) rfl ?_
        refine g_calli (a := m_L_poke) (as := [.ref 1000, .int (yA w 0 (Int32.toNatClampNeg (a4 + (1 : Int32)))), .int (yA w 0 (Int32.toNatClampNeg (a4 + (2 : Int32)))), .ref 1076]) (rest := []) (ls0 := [.ref 1000, .int (yA w 0 (Int32.toNatClampNeg (a4 + (1 : Int32)))), .int (yA w 0 (Int32.toNatClampNeg (a4 + (2 : Int32)))), .ref 1076, zJ]) (pc' := 173) (t_stat rfl (Or.inl rfl) rfl rfl rfl rfl) rfl rfl rfl ?_
        refine zGo.mono H (zKi_mono ?_)
        intro v6 w5 H
        refine g_ist (k := 5) (pc' := 175) (ls' := [.ref 0, .ref 1000, .ref 1031, .ref 1076, .int a4, .int v6, ua6, zJ]) rfl rfl rfl rfl (zst1_of rfl (Or.inr rfl) rfl) ?_
        refine g_s (pc' := 176) rfl ?_
        refine g_s (pc' := 177) rfl ?_
        refine g_s (pc' := 179) rfl ?_
        refine g_psh (pc' := 180) (v' := .int 1) rfl (congrArg Value.int kc_i1) ?_
        refine g_s (pc' := 181) (st' := [.int (a4 + (1 : Int32)), .ref 0, .ref 1031]) rfl ?_
        obtain ⟨hS7, H⟩ := H
        obtain ⟨hi8, H⟩ := H
        refine g_iald (pc' := 182) rfl rfl rfl rfl hS7 (Or.inr rfl) hi8 ?_
        refine g_s (pc' := 183) rfl ?_
        refine g_s (pc' := 185) rfl ?_
        refine g_psh (pc' := 186) (v' := .int 2) rfl (congrArg Value.int kc_i2) ?_
        refine g_s (pc' := 187) (st' := [.int (a4 + (2 : Int32)), .ref 0, .int (yA w5 0 (Int32.toNatClampNeg (a4 + (1 : Int32)))), .ref 1031]) rfl ?_
        obtain ⟨hi9, H⟩ := H
        refine g_iald (pc' := 188) rfl rfl rfl rfl hS7 (Or.inr rfl) hi9 ?_
        refine g_calli (a := m_X9_poke) (as := [.ref 1031, .int (yA w5 0 (Int32.toNatClampNeg (a4 + (1 : Int32)))), .int (yA w5 0 (Int32.toNatClampNeg (a4 + (2 : Int32))))]) (rest := []) (ls0 := [.ref 1031, .int (yA w5 0 (Int32.toNatClampNeg (a4 + (1 : Int32)))), .int (yA w5 0 (Int32.toNatClampNeg (a4 + (2 : Int32))))]) (pc' := 191) (t_virt rfl rfl rfl rfl rfl rfl) rfl rfl rfl ?_
        refine zGo.mono H (zKi_mono ?_)
        intro v11 w10 H
        refine g_ist (k := 6) (pc' := 193) (ls' := [.ref 0, .ref 1000, .ref 1031, .ref 1076, .int a4, .int v6, .int v11, zJ]) rfl rfl rfl rfl (zst1_of rfl (Or.inr rfl) rfl) ?_
        refine g_s (pc' := 194) rfl ?_
        refine g_calli (a := m_X9_thrown) (as := [.ref 1031]) (rest := []) (ls0 := [.ref 1031]) (pc' := 197) (t_virt rfl rfl rfl rfl rfl rfl) rfl rfl rfl ?_
        refine zGo.mono H (zKi_mono ?_)
        intro v13 w12 H
        refine g_s (pc' := 199) rfl ?_
        refine g_iceq (pc' := 202) rfl rfl (fun hc => ?_) (fun hc => ?_)
        · replace H := H.1 hc
          refine g_s (pc' := 206) rfl ?_
          refine g_ifne (pc' := 209) rfl rfl (fun hc => ?_) (fun hc => ?_)
          · replace H := H.1 hc
            refine g_s (pc' := 210) rfl ?_
            refine g_psh (pc' := 211) (v' := .int 0) rfl (congrArg Value.int kc_i0) ?_
            refine g_lald (pc' := 212) rfl rfl rfl rfl rfl ⟨by decide, by decide⟩ ?_
            refine g_s (pc' := 214) rfl ?_
            refine g_s (pc' := 215) (st' := [.long (Int32.toInt64 v11), .long (yB w12 1076 (Int32.toNatClampNeg (0 : Int32)))]) rfl ?_
            refine g_s (pc' := 216) (st' := [.int (lg_cmp (yB w12 1076 (Int32.toNatClampNeg (0 : Int32))) (Int32.toInt64 v11))]) rfl ?_
            refine g_ifeq (pc' := 219) rfl rfl (fun hc => ?_) (fun hc => ?_)
            · replace H := H.1 hc
              refine g_s (pc' := 1089) rfl ?_
              refine g_inc (pc' := 1092) (ls' := [.ref 0, .ref 1000, .ref 1031, .ref 1076, .int (a4 + 4), .int v6, .int v11, zJ]) rfl rfl rfl kc_i4 (zst1_of rfl (Or.inr rfl) rfl) ?_
              refine g_s (pc' := 33) rfl ?_
              exact H
            · replace H := H.2 hc
              refine g_psh (pc' := 220) (v' := .int 0) rfl (congrArg Value.int kc_i0) ?_
              exact g_reti rfl (zbool _ (Or.inl rfl)) H
          · replace H := H.2 hc
            refine g_s (pc' := 1089) rfl ?_
            refine g_inc (pc' := 1092) (ls' := [.ref 0, .ref 1000, .ref 1031, .ref 1076, .int (a4 + 4), .int v6, .int v11, zJ]) rfl rfl rfl kc_i4 (zst1_of rfl (Or.inr rfl) rfl) ?_
            refine g_s (pc' := 33) rfl ?_
            exact H
        · replace H := H.2 hc
          refine g_psh (pc' := 203) (v' := .int 0) rfl (congrArg Value.int kc_i0) ?_
          exact g_reti rfl (zbool _ (Or.inl rfl)) H
      | 1, _, hx =>
        refine ⟨175, rfl, ?_⟩
        replace H := H.2.2.1 (by omega)
        show zGo (d + 1) m_L_law 224 [.ref 0, .ref 1000, .ref 1031, .ref 1076, .int a4, ua5, ua6, zJ] [] (yz w) (zKi F)
        refine g_s (pc' := 225) rfl ?_
        refine g_calli (a := m_X8_verify) (as := [.ref 1000]) (rest := []) (ls0 := [.ref 1000, zJ]) (pc' := 228) (t_virt rfl rfl rfl rfl rfl rfl) rfl rfl rfl ?_
        refine zGo.mono H (zKi_mono ?_)
        intro v15 w14 H
        refine g_s (pc' := 229) rfl ?_
        refine g_calli (a := m_X9_verify) (as := [.ref 1031]) (rest := [.int v15]) (ls0 := [.ref 1031, zJ]) (pc' := 232) (t_virt rfl rfl rfl rfl rfl rfl) rfl rfl rfl ?_
        refine zGo.mono H (zKi_mono ?_)
        intro v17 w16 H
        refine g_iceq (pc' := 235) rfl rfl (fun hc => ?_) (fun hc => ?_)
        · replace H := H.1 hc
          refine g_inc (pc' := 1092) (ls' := [.ref 0, .ref 1000, .ref 1031, .ref 1076, .int (a4 + 4), ua5, ua6, zJ]) rfl rfl rfl kc_i4 (zst1_of rfl (Or.inr rfl) rfl) ?_
          refine g_s (pc' := 33) rfl ?_
          exact H
        · replace H := H.2 hc
          refine g_psh (pc' := 236) (v' := .int 0) rfl (congrArg Value.int kc_i0) ?_
          exact g_reti rfl (zbool _ (Or.inl rfl)) H
      | 2, _, hx =>
        refine ⟨188, rfl, ?_⟩
        replace H := H.2.2.2.1 (by omega)
        show zGo (d + 1) m_L_law 237 [.ref 0, .ref 1000, .ref 1031, .ref 1076, .int a4, ua5, ua6, zJ] [] (yz w) (zKi F)
        refine g_s (pc' := 238) rfl ?_
        refine g_calli (a := m_X8_place) (as := [.ref 1000]) (rest := []) (ls0 := [.ref 1000]) (pc' := 241) (t_virt rfl rfl rfl rfl rfl rfl) rfl rfl rfl ?_
        refine zGo.mono H (zKi_mono ?_)
        intro v19 w18 H
        refine g_s (pc' := 242) rfl ?_
        refine g_calli (a := m_X9_place) (as := [.ref 1031]) (rest := [.int v19]) (ls0 := [.ref 1031]) (pc' := 245) (t_virt rfl rfl rfl rfl rfl rfl) rfl rfl rfl ?_
        refine zGo.mono H (zKi_mono ?_)
        intro v21 w20 H
        refine g_iceq (pc' := 248) rfl rfl (fun hc => ?_) (fun hc => ?_)
        · replace H := H.1 hc
          refine g_inc (pc' := 1092) (ls' := [.ref 0, .ref 1000, .ref 1031, .ref 1076, .int (a4 + 4), ua5, ua6, zJ]) rfl rfl rfl kc_i4 (zst1_of rfl (Or.inr rfl) rfl) ?_
          refine g_s (pc' := 33) rfl ?_
          exact H
        · replace H := H.2 hc
          refine g_psh (pc' := 249) (v' := .int 0) rfl (congrArg Value.int kc_i0) ?_
          exact g_reti rfl (zbool _ (Or.inl rfl)) H
      | 3, _, hx =>
        refine ⟨201, rfl, ?_⟩
        replace H := H.2.2.2.2.1 (by omega)
        show zGo (d + 1) m_L_law 250 [.ref 0, .ref 1000, .ref 1031, .ref 1076, .int a4, ua5, ua6, zJ] [] (yz w) (zKi F)
        refine g_s (pc' := 251) rfl ?_
        refine g_s (pc' := 252) rfl ?_
        refine g_s (pc' := 254) rfl ?_
        refine g_psh (pc' := 255) (v' := .int 1) rfl (congrArg Value.int kc_i1) ?_
        refine g_s (pc' := 256) (st' := [.int (a4 + (1 : Int32)), .ref 0, .ref 1000]) rfl ?_
        obtain ⟨hi22, H⟩ := H
        refine g_iald (pc' := 257) rfl rfl rfl rfl hS1 (Or.inr rfl) hi22 ?_
        refine g_s (pc' := 258) rfl ?_
        refine g_s (pc' := 260) rfl ?_
        refine g_psh (pc' := 261) (v' := .int 2) rfl (congrArg Value.int kc_i2) ?_
        refine g_s (pc' := 262) (st' := [.int (a4 + (2 : Int32)), .ref 0, .int (yA w 0 (Int32.toNatClampNeg (a4 + (1 : Int32)))), .ref 1000]) rfl ?_
        obtain ⟨hi23, H⟩ := H
        refine g_iald (pc' := 263) rfl rfl rfl rfl hS1 (Or.inr rfl) hi23 ?_
        refine g_s (pc' := 264) rfl ?_
        refine g_calli (a := m_L_setLocal) (as := [.ref 1000, .int (yA w 0 (Int32.toNatClampNeg (a4 + (1 : Int32)))), .int (yA w 0 (Int32.toNatClampNeg (a4 + (2 : Int32)))), .ref 1076]) (rest := []) (ls0 := [.ref 1000, .int (yA w 0 (Int32.toNatClampNeg (a4 + (1 : Int32)))), .int (yA w 0 (Int32.toNatClampNeg (a4 + (2 : Int32)))), .ref 1076, zJ]) (pc' := 267) (t_stat rfl (Or.inl rfl) rfl rfl rfl rfl) rfl rfl rfl ?_
        refine zGo.mono H (zKi_mono ?_)
        intro v25 w24 H
        refine g_ist (k := 5) (pc' := 269) (ls' := [.ref 0, .ref 1000, .ref 1031, .ref 1076, .int a4, .int v25, ua6, zJ]) rfl rfl rfl rfl (zst1_of rfl (Or.inr rfl) rfl) ?_
        refine g_s (pc' := 270) rfl ?_
        refine g_s (pc' := 271) rfl ?_
        refine g_s (pc' := 273) rfl ?_
        refine g_psh (pc' := 274) (v' := .int 1) rfl (congrArg Value.int kc_i1) ?_
        refine g_s (pc' := 275) (st' := [.int (a4 + (1 : Int32)), .ref 0, .ref 1031]) rfl ?_
        obtain ⟨hS26, H⟩ := H
        obtain ⟨hi27, H⟩ := H
        refine g_iald (pc' := 276) rfl rfl rfl rfl hS26 (Or.inr rfl) hi27 ?_
        refine g_s (pc' := 277) rfl ?_
        refine g_s (pc' := 279) rfl ?_
        refine g_psh (pc' := 280) (v' := .int 2) rfl (congrArg Value.int kc_i2) ?_
        refine g_s (pc' := 281) (st' := [.int (a4 + (2 : Int32)), .ref 0, .int (yA w24 0 (Int32.toNatClampNeg (a4 + (1 : Int32)))), .ref 1031]) rfl ?_
        obtain ⟨hi28, H⟩ := H
        refine g_iald (pc' := 282) rfl rfl rfl rfl hS26 (Or.inr rfl) hi28 ?_
        refine g_calli (a := m_X9_setLocal) (as := [.ref 1031, .int (yA w24 0 (Int32.toNatClampNeg (a4 + (1 : Int32)))), .int (yA w24 0 (Int32.toNatClampNeg (a4 + (2 : Int32))))]) (rest := []) (ls0 := [.ref 1031, .int (yA w24 0 (Int32.toNatClampNeg (a4 + (1 : Int32)))), .int (yA w24 0 (Int32.toNatClampNeg (a4 + (2 : Int32)))), zJ]) (pc' := 285) (t_virt rfl rfl rfl rfl rfl rfl) rfl rfl rfl ?_
        refine zGo.mono H (zKi_mono ?_)
        intro v30 w29 H
        refine g_ist (k := 6) (pc' := 287) (ls' := [.ref 0, .ref 1000, .ref 1031, .ref 1076, .int a4, .int v25, .int v30, zJ]) rfl rfl rfl rfl (zst1_of rfl (Or.inr rfl) rfl) ?_
        refine g_s (pc' := 288) rfl ?_
        refine g_calli (a := m_X9_thrown) (as := [.ref 1031]) (rest := []) (ls0 := [.ref 1031]) (pc' := 291) (t_virt rfl rfl rfl rfl rfl rfl) rfl rfl rfl ?_
        refine zGo.mono H (zKi_mono ?_)
        intro v32 w31 H
        refine g_s (pc' := 293) rfl ?_
        refine g_iceq (pc' := 296) rfl rfl (fun hc => ?_) (fun hc => ?_)
        · replace H := H.1 hc
          refine g_s (pc' := 300) rfl ?_
          refine g_ifne (pc' := 303) rfl rfl (fun hc => ?_) (fun hc => ?_)
          · replace H := H.1 hc
            refine g_s (pc' := 304) rfl ?_
            refine g_psh (pc' := 305) (v' := .int 0) rfl (congrArg Value.int kc_i0) ?_
            refine g_lald (pc' := 306) rfl rfl rfl rfl rfl ⟨by decide, by decide⟩ ?_
            refine g_s (pc' := 308) rfl ?_
            refine g_s (pc' := 309) (st' := [.long (Int32.toInt64 v30), .long (yB w31 1076 (Int32.toNatClampNeg (0 : Int32)))]) rfl ?_
            refine g_s (pc' := 310) (st' := [.int (lg_cmp (yB w31 1076 (Int32.toNatClampNeg (0 : Int32))) (Int32.toInt64 v30))]) rfl ?_
            refine g_ifeq (pc' := 313) rfl rfl (fun hc => ?_) (fun hc => ?_)
            · replace H := H.1 hc
              refine g_s (pc' := 1089) rfl ?_
              refine g_inc (pc' := 1092) (ls' := [.ref 0, .ref 1000, .ref 1031, .ref 1076, .int (a4 + 4), .int v25, .int v30, zJ]) rfl rfl rfl kc_i4 (zst1_of rfl (Or.inr rfl) rfl) ?_
              refine g_s (pc' := 33) rfl ?_
              exact H
            · replace H := H.2 hc
              refine g_psh (pc' := 314) (v' := .int 0) rfl (congrArg Value.int kc_i0) ?_
              exact g_reti rfl (zbool _ (Or.inl rfl)) H
          · replace H := H.2 hc
            refine g_s (pc' := 1089) rfl ?_
            refine g_inc (pc' := 1092) (ls' := [.ref 0, .ref 1000, .ref 1031, .ref 1076, .int (a4 + 4), .int v25, .int v30, zJ]) rfl rfl rfl kc_i4 (zst1_of rfl (Or.inr rfl) rfl) ?_
            refine g_s (pc' := 33) rfl ?_
            exact H
        · replace H := H.2 hc
          refine g_psh (pc' := 297) (v' := .int 0) rfl (congrArg Value.int kc_i0) ?_
          exact g_reti rfl (zbool _ (Or.inl rfl)) H
      | 4, _, hx =>
        refine ⟨269, rfl, ?_⟩
        replace H := H.2.2.2.2.2.1 (by omega)
        show zGo (d + 1) m_L_law 318 [.ref 0, .ref 1000, .ref 1031, .ref 1076, .int a4, ua5, ua6, zJ] [] (yz w) (zKi F)
        refine g_s (pc' := 319) rfl ?_
        refine g_calli (a := m_L_start) (as := [.ref 1000]) (rest := []) (ls0 := [.ref 1000, zJ]) (pc' := 322) (t_stat rfl (Or.inl rfl) rfl rfl rfl rfl) rfl rfl rfl ?_
        refine zGo.mono H (zKi_mono ?_)
        intro v34 w33 H
        refine g_ist (k := 5) (pc' := 324) (ls' := [.ref 0, .ref 1000, .ref 1031, .ref 1076, .int a4, .int v34, ua6, zJ]) rfl rfl rfl rfl (zst1_of rfl (Or.inr rfl) rfl) ?_
        refine g_s (pc' := 325) rfl ?_
        refine g_callv (a := m_X9_start) (as := [.ref 1031]) (rest := []) (ls0 := [.ref 1031, zJ]) (pc' := 328) (t_virt rfl rfl rfl rfl rfl rfl) rfl rfl rfl ?_
        refine zGo.mono H (zKv_mono ?_)
        intro w35 H
        refine g_s (pc' := 329) rfl ?_
        refine g_calli (a := m_X9_thrown) (as := [.ref 1031]) (rest := []) (ls0 := [.ref 1031]) (pc' := 332) (t_virt rfl rfl rfl rfl rfl rfl) rfl rfl rfl ?_
        refine zGo.mono H (zKi_mono ?_)
        intro v37 w36 H
        refine g_s (pc' := 334) rfl ?_
        refine g_iceq (pc' := 337) rfl rfl (fun hc => ?_) (fun hc => ?_)
        · replace H := H.1 hc
          refine g_s (pc' := 1089) rfl ?_
          refine g_inc (pc' := 1092) (ls' := [.ref 0, .ref 1000, .ref 1031, .ref 1076, .int (a4 + 4), .int v34, ua6, zJ]) rfl rfl rfl kc_i4 (zst1_of rfl (Or.inr rfl) rfl) ?_
          refine g_s (pc' := 33) rfl ?_
          exact H
        · replace H := H.2 hc
          refine g_psh (pc' := 338) (v' := .int 0) rfl (congrArg Value.int kc_i0) ?_
          exact g_reti rfl (zbool _ (Or.inl rfl)) H
      | 5, _, hx =>
        refine ⟨293, rfl, ?_⟩
        replace H := H.2.2.2.2.2.2.1 (by omega)
        show zGo (d + 1) m_L_law 342 [.ref 0, .ref 1000, .ref 1031, .ref 1076, .int a4, ua5, ua6, zJ] [] (yz w) (zKi F)
        refine g_s (pc' := 343) rfl ?_
        refine g_s (pc' := 344) rfl ?_
        refine g_s (pc' := 346) rfl ?_
        refine g_psh (pc' := 347) (v' := .int 1) rfl (congrArg Value.int kc_i1) ?_
        refine g_s (pc' := 348) (st' := [.int (a4 + (1 : Int32)), .ref 0, .ref 1000]) rfl ?_
        obtain ⟨hi38, H⟩ := H
        refine g_iald (pc' := 349) rfl rfl rfl rfl hS1 (Or.inr rfl) hi38 ?_
        refine g_s (pc' := 350) rfl ?_
        refine g_calli (a := m_L_run) (as := [.ref 1000, .int (yA w 0 (Int32.toNatClampNeg (a4 + (1 : Int32)))), .ref 1076]) (rest := []) (ls0 := [.ref 1000, .int (yA w 0 (Int32.toNatClampNeg (a4 + (1 : Int32)))), .ref 1076, zJ]) (pc' := 353) (t_stat rfl (Or.inl rfl) rfl rfl rfl rfl) rfl rfl rfl ?_
        refine zGo.mono H (zKi_mono ?_)
        intro v40 w39 H
        refine g_ist (k := 5) (pc' := 355) (ls' := [.ref 0, .ref 1000, .ref 1031, .ref 1076, .int a4, .int v40, ua6, zJ]) rfl rfl rfl rfl (zst1_of rfl (Or.inr rfl) rfl) ?_
        refine g_s (pc' := 356) rfl ?_
        refine g_s (pc' := 357) rfl ?_
        refine g_s (pc' := 359) rfl ?_
        refine g_psh (pc' := 360) (v' := .int 1) rfl (congrArg Value.int kc_i1) ?_
        refine g_s (pc' := 361) (st' := [.int (a4 + (1 : Int32)), .ref 0, .ref 1031]) rfl ?_
        obtain ⟨hS41, H⟩ := H
        obtain ⟨hi42, H⟩ := H
        refine g_iald (pc' := 362) rfl rfl rfl rfl hS41 (Or.inr rfl) hi42 ?_
        refine g_calli (a := m_X9_run) (as := [.ref 1031, .int (yA w39 0 (Int32.toNatClampNeg (a4 + (1 : Int32))))]) (rest := []) (ls0 := [.ref 1031, .int (yA w39 0 (Int32.toNatClampNeg (a4 + (1 : Int32)))), zJ, zJ]) (pc' := 365) (t_virt rfl rfl rfl rfl rfl rfl) rfl rfl rfl ?_
        refine zGo.mono H (zKi_mono ?_)
        intro v44 w43 H
        refine g_ist (k := 6) (pc' := 367) (ls' := [.ref 0, .ref 1000, .ref 1031, .ref 1076, .int a4, .int v40, .int v44, zJ]) rfl rfl rfl rfl (zst1_of rfl (Or.inr rfl) rfl) ?_
        refine g_s (pc' := 368) rfl ?_
        refine g_calli (a := m_X9_thrown) (as := [.ref 1031]) (rest := []) (ls0 := [.ref 1031]) (pc' := 371) (t_virt rfl rfl rfl rfl rfl rfl) rfl rfl rfl ?_
        refine zGo.mono H (zKi_mono ?_)
        intro v46 w45 H
        refine g_s (pc' := 373) rfl ?_
        refine g_iceq (pc' := 376) rfl rfl (fun hc => ?_) (fun hc => ?_)
        · replace H := H.1 hc
          refine g_s (pc' := 380) rfl ?_
          refine g_ifne (pc' := 383) rfl rfl (fun hc => ?_) (fun hc => ?_)
          · replace H := H.1 hc
            refine g_s (pc' := 384) rfl ?_
            refine g_psh (pc' := 385) (v' := .int 0) rfl (congrArg Value.int kc_i0) ?_
            refine g_lald (pc' := 386) rfl rfl rfl rfl rfl ⟨by decide, by decide⟩ ?_
            refine g_s (pc' := 388) rfl ?_
            refine g_s (pc' := 389) (st' := [.long (Int32.toInt64 v44), .long (yB w45 1076 (Int32.toNatClampNeg (0 : Int32)))]) rfl ?_
            refine g_s (pc' := 390) (st' := [.int (lg_cmp (yB w45 1076 (Int32.toNatClampNeg (0 : Int32))) (Int32.toInt64 v44))]) rfl ?_
            refine g_ifeq (pc' := 393) rfl rfl (fun hc => ?_) (fun hc => ?_)
            · replace H := H.1 hc
              refine g_s (pc' := 1089) rfl ?_
              refine g_inc (pc' := 1092) (ls' := [.ref 0, .ref 1000, .ref 1031, .ref 1076, .int (a4 + 4), .int v40, .int v44, zJ]) rfl rfl rfl kc_i4 (zst1_of rfl (Or.inr rfl) rfl) ?_
              refine g_s (pc' := 33) rfl ?_
              exact H
            · replace H := H.2 hc
              refine g_psh (pc' := 394) (v' := .int 0) rfl (congrArg Value.int kc_i0) ?_
              exact g_reti rfl (zbool _ (Or.inl rfl)) H
          · replace H := H.2 hc
            refine g_s (pc' := 1089) rfl ?_
            refine g_inc (pc' := 1092) (ls' := [.ref 0, .ref 1000, .ref 1031, .ref 1076, .int (a4 + 4), .int v40, .int v44, zJ]) rfl rfl rfl kc_i4 (zst1_of rfl (Or.inr rfl) rfl) ?_
            refine g_s (pc' := 33) rfl ?_
            exact H
        · replace H := H.2 hc
          refine g_psh (pc' := 377) (v' := .int 0) rfl (congrArg Value.int kc_i0) ?_
          exact g_reti rfl (zbool _ (Or.inl rfl)) H
      | 6, _, hx =>
        refine ⟨349, rfl, ?_⟩
        replace H := H.2.2.2.2.2.2.2.1 (by omega)
        show zGo (d + 1) m_L_law 398 [.ref 0, .ref 1000, .ref 1031, .ref 1076, .int a4, ua5, ua6, zJ] [] (yz w) (zKi F)
        refine g_s (pc' := 399) rfl ?_
        refine g_calli (a := m_X8_state) (as := [.ref 1000]) (rest := []) (ls0 := [.ref 1000]) (pc' := 402) (t_virt rfl rfl rfl rfl rfl rfl) rfl rfl rfl ?_
        refine zGo.mono H (zKi_mono ?_)
        intro v48 w47 H
        refine g_s (pc' := 403) rfl ?_
        refine g_calli (a := m_X9_state) (as := [.ref 1031]) (rest := [.int v48]) (ls0 := [.ref 1031]) (pc' := 406) (t_virt rfl rfl rfl rfl rfl rfl) rfl rfl rfl ?_
        refine zGo.mono H (zKi_mono ?_)
        intro v50 w49 H
        refine g_iceq (pc' := 409) rfl rfl (fun hc => ?_) (fun hc => ?_)
        · replace H := H.1 hc
          refine g_inc (pc' := 1092) (ls' := [.ref 0, .ref 1000, .ref 1031, .ref 1076, .int (a4 + 4), ua5, ua6, zJ]) rfl rfl rfl kc_i4 (zst1_of rfl (Or.inr rfl) rfl) ?_
          refine g_s (pc' := 33) rfl ?_
          exact H
        · replace H := H.2 hc
          refine g_psh (pc' := 410) (v' := .int 0) rfl (congrArg Value.int kc_i0) ?_
          exact g_reti rfl (zbool _ (Or.inl rfl)) H
      | 7, _, hx =>
        refine ⟨362, rfl, ?_⟩
        replace H := H.2.2.2.2.2.2.2.2.1 (by omega)
        show zGo (d + 1) m_L_law 411 [.ref 0, .ref 1000, .ref 1031, .ref 1076, .int a4, ua5, ua6, zJ] [] (yz w) (zKi F)
        refine g_s (pc' := 412) rfl ?_
        refine g_calli (a := m_X8_address) (as := [.ref 1000]) (rest := []) (ls0 := [.ref 1000]) (pc' := 415) (t_virt rfl rfl rfl rfl rfl rfl) rfl rfl rfl ?_
        refine zGo.mono H (zKi_mono ?_)
        intro v52 w51 H
        refine g_s (pc' := 416) rfl ?_
        refine g_calli (a := m_X9_address) (as := [.ref 1031]) (rest := [.int v52]) (ls0 := [.ref 1031]) (pc' := 419) (t_virt rfl rfl rfl rfl rfl rfl) rfl rfl rfl ?_
        refine zGo.mono H (zKi_mono ?_)
        intro v54 w53 H
        refine g_iceq (pc' := 422) rfl rfl (fun hc => ?_) (fun hc => ?_)
        · replace H := H.1 hc
          refine g_inc (pc' := 1092) (ls' := [.ref 0, .ref 1000, .ref 1031, .ref 1076, .int (a4 + 4), ua5, ua6, zJ]) rfl rfl rfl kc_i4 (zst1_of rfl (Or.inr rfl) rfl) ?_
          refine g_s (pc' := 33) rfl ?_
          exact H
        · replace H := H.2 hc
          refine g_psh (pc' := 423) (v' := .int 0) rfl (congrArg Value.int kc_i0) ?_
          exact g_reti rfl (zbool _ (Or.inl rfl)) H
      | 8, _, hx =>
        refine ⟨375, rfl, ?_⟩
        replace H := H.2.2.2.2.2.2.2.2.2.1 (by omega)
        show zGo (d + 1) m_L_law 424 [.ref 0, .ref 1000, .ref 1031, .ref 1076, .int a4, ua5, ua6, zJ] [] (yz w) (zKi F)
        refine g_s (pc' := 425) rfl ?_
        refine g_s (pc' := 426) rfl ?_
        refine g_s (pc' := 428) rfl ?_
        refine g_psh (pc' := 429) (v' := .int 1) rfl (congrArg Value.int kc_i1) ?_
        refine g_s (pc' := 430) (st' := [.int (a4 + (1 : Int32)), .ref 0, .ref 1000]) rfl ?_
        obtain ⟨hi55, H⟩ := H
        refine g_iald (pc' := 431) rfl rfl rfl rfl hS1 (Or.inr rfl) hi55 ?_
        refine g_s (pc' := 432) rfl ?_
        refine g_calli (a := m_L_local) (as := [.ref 1000, .int (yA w 0 (Int32.toNatClampNeg (a4 + (1 : Int32)))), .ref 1076]) (rest := []) (ls0 := [.ref 1000, .int (yA w 0 (Int32.toNatClampNeg (a4 + (1 : Int32)))), .ref 1076, zJ]) (pc' := 435) (t_stat rfl (Or.inl rfl) rfl rfl rfl rfl) rfl rfl rfl ?_
        refine zGo.mono H (zKi_mono ?_)
        intro v57 w56 H
        refine g_ist (k := 5) (pc' := 437) (ls' := [.ref 0, .ref 1000, .ref 1031, .ref 1076, .int a4, .int v57, ua6, zJ]) rfl rfl rfl rfl (zst1_of rfl (Or.inr rfl) rfl) ?_
        refine g_s (pc' := 438) rfl ?_
        refine g_s (pc' := 439) rfl ?_
        refine g_s (pc' := 441) rfl ?_
        refine g_psh (pc' := 442) (v' := .int 1) rfl (congrArg Value.int kc_i1) ?_
        refine g_s (pc' := 443) (st' := [.int (a4 + (1 : Int32)), .ref 0, .ref 1031]) rfl ?_
        obtain ⟨hS58, H⟩ := H
        obtain ⟨hi59, H⟩ := H
        refine g_iald (pc' := 444) rfl rfl rfl rfl hS58 (Or.inr rfl) hi59 ?_
        refine g_calli (a := m_X9_local) (as := [.ref 1031, .int (yA w56 0 (Int32.toNatClampNeg (a4 + (1 : Int32))))]) (rest := []) (ls0 := [.ref 1031, .int (yA w56 0 (Int32.toNatClampNeg (a4 + (1 : Int32))))]) (pc' := 447) (t_virt rfl rfl rfl rfl rfl rfl) rfl rfl rfl ?_
        refine zGo.mono H (zKi_mono ?_)
        intro v61 w60 H
        refine g_ist (k := 6) (pc' := 449) (ls' := [.ref 0, .ref 1000, .ref 1031, .ref 1076, .int a4, .int v57, .int v61, zJ]) rfl rfl rfl rfl (zst1_of rfl (Or.inr rfl) rfl) ?_
        refine g_s (pc' := 450) rfl ?_
        refine g_calli (a := m_X9_thrown) (as := [.ref 1031]) (rest := []) (ls0 := [.ref 1031]) (pc' := 453) (t_virt rfl rfl rfl rfl rfl rfl) rfl rfl rfl ?_
        refine zGo.mono H (zKi_mono ?_)
        intro v63 w62 H
        refine g_s (pc' := 455) rfl ?_
        refine g_iceq (pc' := 458) rfl rfl (fun hc => ?_) (fun hc => ?_)
        · replace H := H.1 hc
          refine g_s (pc' := 462) rfl ?_
          refine g_ifne (pc' := 465) rfl rfl (fun hc => ?_) (fun hc => ?_)
          · replace H := H.1 hc
            refine g_s (pc' := 466) rfl ?_
            refine g_psh (pc' := 467) (v' := .int 0) rfl (congrArg Value.int kc_i0) ?_
            refine g_lald (pc' := 468) rfl rfl rfl rfl rfl ⟨by decide, by decide⟩ ?_
            refine g_s (pc' := 470) rfl ?_
            refine g_s (pc' := 471) (st' := [.long (Int32.toInt64 v61), .long (yB w62 1076 (Int32.toNatClampNeg (0 : Int32)))]) rfl ?_
            refine g_s (pc' := 472) (st' := [.int (lg_cmp (yB w62 1076 (Int32.toNatClampNeg (0 : Int32))) (Int32.toInt64 v61))]) rfl ?_
            refine g_ifeq (pc' := 475) rfl rfl (fun hc => ?_) (fun hc => ?_)
            · replace H := H.1 hc
              refine g_s (pc' := 1089) rfl ?_
              refine g_inc (pc' := 1092) (ls' := [.ref 0, .ref 1000, .ref 1031, .ref 1076, .int (a4 + 4), .int v57, .int v61, zJ]) rfl rfl rfl kc_i4 (zst1_of rfl (Or.inr rfl) rfl) ?_
              refine g_s (pc' := 33) rfl ?_
              exact H
            · replace H := H.2 hc
              refine g_psh (pc' := 476) (v' := .int 0) rfl (congrArg Value.int kc_i0) ?_
              exact g_reti rfl (zbool _ (Or.inl rfl)) H
          · replace H := H.2 hc
            refine g_s (pc' := 1089) rfl ?_
            refine g_inc (pc' := 1092) (ls' := [.ref 0, .ref 1000, .ref 1031, .ref 1076, .int (a4 + 4), .int v57, .int v61, zJ]) rfl rfl rfl kc_i4 (zst1_of rfl (Or.inr rfl) rfl) ?_
            refine g_s (pc' := 33) rfl ?_
            exact H
        · replace H := H.2 hc
          refine g_psh (pc' := 459) (v' := .int 0) rfl (congrArg Value.int kc_i0) ?_
          exact g_reti rfl (zbool _ (Or.inl rfl)) H
      | 9, _, hx =>
        refine ⟨431, rfl, ?_⟩
        replace H := H.2.2.2.2.2.2.2.2.2.2.1 (by omega)
        show zGo (d + 1) m_L_law 480 [.ref 0, .ref 1000, .ref 1031, .ref 1076, .int a4, ua5, ua6, zJ] [] (yz w) (zKi F)
        refine g_s (pc' := 481) rfl ?_
        refine g_s (pc' := 482) rfl ?_
        refine g_s (pc' := 484) rfl ?_
        refine g_psh (pc' := 485) (v' := .int 1) rfl (congrArg Value.int kc_i1) ?_
        refine g_s (pc' := 486) (st' := [.int (a4 + (1 : Int32)), .ref 0, .ref 1000]) rfl ?_
        obtain ⟨hi64, H⟩ := H
        refine g_iald (pc' := 487) rfl rfl rfl rfl hS1 (Or.inr rfl) hi64 ?_
        refine g_s (pc' := 488) rfl ?_
        refine g_calli (a := m_L_memory) (as := [.ref 1000, .int (yA w 0 (Int32.toNatClampNeg (a4 + (1 : Int32)))), .ref 1076]) (rest := []) (ls0 := [.ref 1000, .int (yA w 0 (Int32.toNatClampNeg (a4 + (1 : Int32)))), .ref 1076, zJ]) (pc' := 491) (t_stat rfl (Or.inl rfl) rfl rfl rfl rfl) rfl rfl rfl ?_
        refine zGo.mono H (zKi_mono ?_)
        intro v66 w65 H
        refine g_ist (k := 5) (pc' := 493) (ls' := [.ref 0, .ref 1000, .ref 1031, .ref 1076, .int a4, .int v66, ua6, zJ]) rfl rfl rfl rfl (zst1_of rfl (Or.inr rfl) rfl) ?_
        refine g_s (pc' := 494) rfl ?_
        refine g_s (pc' := 495) rfl ?_
        refine g_s (pc' := 497) rfl ?_
        refine g_psh (pc' := 498) (v' := .int 1) rfl (congrArg Value.int kc_i1) ?_
        refine g_s (pc' := 499) (st' := [.int (a4 + (1 : Int32)), .ref 0, .ref 1031]) rfl ?_
        obtain ⟨hS67, H⟩ := H
        obtain ⟨hi68, H⟩ := H
        refine g_iald (pc' := 500) rfl rfl rfl rfl hS67 (Or.inr rfl) hi68 ?_
        refine g_calli (a := m_X9_memory) (as := [.ref 1031, .int (yA w65 0 (Int32.toNatClampNeg (a4 + (1 : Int32))))]) (rest := []) (ls0 := [.ref 1031, .int (yA w65 0 (Int32.toNatClampNeg (a4 + (1 : Int32))))]) (pc' := 503) (t_virt rfl rfl rfl rfl rfl rfl) rfl rfl rfl ?_
        refine zGo.mono H (zKi_mono ?_)
        intro v70 w69 H
        refine g_ist (k := 6) (pc' := 505) (ls' := [.ref 0, .ref 1000, .ref 1031, .ref 1076, .int a4, .int v66, .int v70, zJ]) rfl rfl rfl rfl (zst1_of rfl (Or.inr rfl) rfl) ?_
        refine g_s (pc' := 506) rfl ?_
        refine g_calli (a := m_X9_thrown) (as := [.ref 1031]) (rest := []) (ls0 := [.ref 1031]) (pc' := 509) (t_virt rfl rfl rfl rfl rfl rfl) rfl rfl rfl ?_
        refine zGo.mono H (zKi_mono ?_)
        intro v72 w71 H
        refine g_s (pc' := 511) rfl ?_
        refine g_iceq (pc' := 514) rfl rfl (fun hc => ?_) (fun hc => ?_)
        · replace H := H.1 hc
          refine g_s (pc' := 518) rfl ?_
          refine g_ifne (pc' := 521) rfl rfl (fun hc => ?_) (fun hc => ?_)
          · replace H := H.1 hc
            refine g_s (pc' := 522) rfl ?_
            refine g_psh (pc' := 523) (v' := .int 0) rfl (congrArg Value.int kc_i0) ?_
            refine g_lald (pc' := 524) rfl rfl rfl rfl rfl ⟨by decide, by decide⟩ ?_
            refine g_s (pc' := 526) rfl ?_
            refine g_s (pc' := 527) (st' := [.long (Int32.toInt64 v70), .long (yB w71 1076 (Int32.toNatClampNeg (0 : Int32)))]) rfl ?_
            refine g_s (pc' := 528) (st' := [.int (lg_cmp (yB w71 1076 (Int32.toNatClampNeg (0 : Int32))) (Int32.toInt64 v70))]) rfl ?_
            refine g_ifeq (pc' := 531) rfl rfl (fun hc => ?_) (fun hc => ?_)
            · replace H := H.1 hc
              refine g_s (pc' := 1089) rfl ?_
              refine g_inc (pc' := 1092) (ls' := [.ref 0, .ref 1000, .ref 1031, .ref 1076, .int (a4 + 4), .int v66, .int v70, zJ]) rfl rfl rfl kc_i4 (zst1_of rfl (Or.inr rfl) rfl) ?_
              refine g_s (pc' := 33) rfl ?_
              exact H
            · replace H := H.2 hc
              refine g_psh (pc' := 532) (v' := .int 0) rfl (congrArg Value.int kc_i0) ?_
              exact g_reti rfl (zbool _ (Or.inl rfl)) H
          · replace H := H.2 hc
            refine g_s (pc' := 1089) rfl ?_
            refine g_inc (pc' := 1092) (ls' := [.ref 0, .ref 1000, .ref 1031, .ref 1076, .int (a4 + 4), .int v66, .int v70, zJ]) rfl rfl rfl kc_i4 (zst1_of rfl (Or.inr rfl) rfl) ?_
            refine g_s (pc' := 33) rfl ?_
            exact H
        · replace H := H.2 hc
          refine g_psh (pc' := 515) (v' := .int 0) rfl (congrArg Value.int kc_i0) ?_
          exact g_reti rfl (zbool _ (Or.inl rfl)) H
      | 10, _, hx =>
        refine ⟨487, rfl, ?_⟩
        replace H := H.2.2.2.2.2.2.2.2.2.2.2.1 (by omega)
        show zGo (d + 1) m_L_law 536 [.ref 0, .ref 1000, .ref 1031, .ref 1076, .int a4, ua5, ua6, zJ] [] (yz w) (zKi F)
        refine g_s (pc' := 537) rfl ?_
        refine g_calli (a := m_X8_height) (as := [.ref 1000]) (rest := []) (ls0 := [.ref 1000]) (pc' := 540) (t_virt rfl rfl rfl rfl rfl rfl) rfl rfl rfl ?_
        refine zGo.mono H (zKi_mono ?_)
        intro v74 w73 H
        refine g_s (pc' := 541) rfl ?_
        refine g_calli (a := m_X9_height) (as := [.ref 1031]) (rest := [.int v74]) (ls0 := [.ref 1031]) (pc' := 544) (t_virt rfl rfl rfl rfl rfl rfl) rfl rfl rfl ?_
        refine zGo.mono H (zKi_mono ?_)
        intro v76 w75 H
        refine g_iceq (pc' := 547) rfl rfl (fun hc => ?_) (fun hc => ?_)
        · replace H := H.1 hc
          refine g_inc (pc' := 1092) (ls' := [.ref 0, .ref 1000, .ref 1031, .ref 1076, .int (a4 + 4), ua5, ua6, zJ]) rfl rfl rfl kc_i4 (zst1_of rfl (Or.inr rfl) rfl) ?_
          refine g_s (pc' := 33) rfl ?_
          exact H
        · replace H := H.2 hc
          refine g_psh (pc' := 548) (v' := .int 0) rfl (congrArg Value.int kc_i0) ?_
          exact g_reti rfl (zbool _ (Or.inl rfl)) H
      | 11, _, hx =>
        refine ⟨500, rfl, ?_⟩
        replace H := H.2.2.2.2.2.2.2.2.2.2.2.2.1 (by omega)
        show zGo (d + 1) m_L_law 549 [.ref 0, .ref 1000, .ref 1031, .ref 1076, .int a4, ua5, ua6, zJ] [] (yz w) (zKi F)
        refine g_s (pc' := 550) rfl ?_
        refine g_s (pc' := 551) rfl ?_
        refine g_s (pc' := 553) rfl ?_
        refine g_psh (pc' := 554) (v' := .int 1) rfl (congrArg Value.int kc_i1) ?_
        refine g_s (pc' := 555) (st' := [.int (a4 + (1 : Int32)), .ref 0, .ref 1000]) rfl ?_
        obtain ⟨hi77, H⟩ := H
        refine g_iald (pc' := 556) rfl rfl rfl rfl hS1 (Or.inr rfl) hi77 ?_
        refine g_s (pc' := 557) rfl ?_
        refine g_calli (a := m_L_stack) (as := [.ref 1000, .int (yA w 0 (Int32.toNatClampNeg (a4 + (1 : Int32)))), .ref 1076]) (rest := []) (ls0 := [.ref 1000, .int (yA w 0 (Int32.toNatClampNeg (a4 + (1 : Int32)))), .ref 1076, zJ]) (pc' := 560) (t_stat rfl (Or.inl rfl) rfl rfl rfl rfl) rfl rfl rfl ?_
        refine zGo.mono H (zKi_mono ?_)
        intro v79 w78 H
        refine g_ist (k := 5) (pc' := 562) (ls' := [.ref 0, .ref 1000, .ref 1031, .ref 1076, .int a4, .int v79, ua6, zJ]) rfl rfl rfl rfl (zst1_of rfl (Or.inr rfl) rfl) ?_
        refine g_s (pc' := 563) rfl ?_
        refine g_s (pc' := 564) rfl ?_
        refine g_s (pc' := 566) rfl ?_
        refine g_psh (pc' := 567) (v' := .int 1) rfl (congrArg Value.int kc_i1) ?_
        refine g_s (pc' := 568) (st' := [.int (a4 + (1 : Int32)), .ref 0, .ref 1031]) rfl ?_
        obtain ⟨hS80, H⟩ := H
        obtain ⟨hi81, H⟩ := H
        refine g_iald (pc' := 569) rfl rfl rfl rfl hS80 (Or.inr rfl) hi81 ?_
        refine g_calli (a := m_X9_stack) (as := [.ref 1031, .int (yA w78 0 (Int32.toNatClampNeg (a4 + (1 : Int32))))]) (rest := []) (ls0 := [.ref 1031, .int (yA w78 0 (Int32.toNatClampNeg (a4 + (1 : Int32))))]) (pc' := 572) (t_virt rfl rfl rfl rfl rfl rfl) rfl rfl rfl ?_
        refine zGo.mono H (zKi_mono ?_)
        intro v83 w82 H
        refine g_ist (k := 6) (pc' := 574) (ls' := [.ref 0, .ref 1000, .ref 1031, .ref 1076, .int a4, .int v79, .int v83, zJ]) rfl rfl rfl rfl (zst1_of rfl (Or.inr rfl) rfl) ?_
        refine g_s (pc' := 575) rfl ?_
        refine g_calli (a := m_X9_thrown) (as := [.ref 1031]) (rest := []) (ls0 := [.ref 1031]) (pc' := 578) (t_virt rfl rfl rfl rfl rfl rfl) rfl rfl rfl ?_
        refine zGo.mono H (zKi_mono ?_)
        intro v85 w84 H
        refine g_s (pc' := 580) rfl ?_
        refine g_iceq (pc' := 583) rfl rfl (fun hc => ?_) (fun hc => ?_)
        · replace H := H.1 hc
          refine g_s (pc' := 587) rfl ?_
          refine g_ifne (pc' := 590) rfl rfl (fun hc => ?_) (fun hc => ?_)
          · replace H := H.1 hc
            refine g_s (pc' := 591) rfl ?_
            refine g_psh (pc' := 592) (v' := .int 0) rfl (congrArg Value.int kc_i0) ?_
            refine g_lald (pc' := 593) rfl rfl rfl rfl rfl ⟨by decide, by decide⟩ ?_
            refine g_s (pc' := 595) rfl ?_
            refine g_s (pc' := 596) (st' := [.long (Int32.toInt64 v83), .long (yB w84 1076 (Int32.toNatClampNeg (0 : Int32)))]) rfl ?_
            refine g_s (pc' := 597) (st' := [.int (lg_cmp (yB w84 1076 (Int32.toNatClampNeg (0 : Int32))) (Int32.toInt64 v83))]) rfl ?_
            refine g_ifeq (pc' := 600) rfl rfl (fun hc => ?_) (fun hc => ?_)
            · replace H := H.1 hc
              refine g_s (pc' := 1089) rfl ?_
              refine g_inc (pc' := 1092) (ls' := [.ref 0, .ref 1000, .ref 1031, .ref 1076, .int (a4 + 4), .int v79, .int v83, zJ]) rfl rfl rfl kc_i4 (zst1_of rfl (Or.inr rfl) rfl) ?_
              refine g_s (pc' := 33) rfl ?_
              exact H
            · replace H := H.2 hc
              refine g_psh (pc' := 601) (v' := .int 0) rfl (congrArg Value.int kc_i0) ?_
              exact g_reti rfl (zbool _ (Or.inl rfl)) H
          · replace H := H.2 hc
            refine g_s (pc' := 1089) rfl ?_
            refine g_inc (pc' := 1092) (ls' := [.ref 0, .ref 1000, .ref 1031, .ref 1076, .int (a4 + 4), .int v79, .int v83, zJ]) rfl rfl rfl kc_i4 (zst1_of rfl (Or.inr rfl) rfl) ?_
            refine g_s (pc' := 33) rfl ?_
            exact H
        · replace H := H.2 hc
          refine g_psh (pc' := 584) (v' := .int 0) rfl (congrArg Value.int kc_i0) ?_
          exact g_reti rfl (zbool _ (Or.inl rfl)) H
      | 12, _, hx =>
        refine ⟨556, rfl, ?_⟩
        replace H := H.2.2.2.2.2.2.2.2.2.2.2.2.2.1 (by omega)
        show zGo (d + 1) m_L_law 605 [.ref 0, .ref 1000, .ref 1031, .ref 1076, .int a4, ua5, ua6, zJ] [] (yz w) (zKi F)
        refine g_s (pc' := 606) rfl ?_
        refine g_calli (a := m_X8_emitted) (as := [.ref 1000]) (rest := []) (ls0 := [.ref 1000]) (pc' := 609) (t_virt rfl rfl rfl rfl rfl rfl) rfl rfl rfl ?_
        refine zGo.mono H (zKi_mono ?_)
        intro v87 w86 H
        refine g_s (pc' := 610) rfl ?_
        refine g_calli (a := m_X9_emitted) (as := [.ref 1031]) (rest := [.int v87]) (ls0 := [.ref 1031]) (pc' := 613) (t_virt rfl rfl rfl rfl rfl rfl) rfl rfl rfl ?_
        refine zGo.mono H (zKi_mono ?_)
        intro v89 w88 H
        refine g_iceq (pc' := 616) rfl rfl (fun hc => ?_) (fun hc => ?_)
        · replace H := H.1 hc
          refine g_inc (pc' := 1092) (ls' := [.ref 0, .ref 1000, .ref 1031, .ref 1076, .int (a4 + 4), ua5, ua6, zJ]) rfl rfl rfl kc_i4 (zst1_of rfl (Or.inr rfl) rfl) ?_
          refine g_s (pc' := 33) rfl ?_
          exact H
        · replace H := H.2 hc
          refine g_psh (pc' := 617) (v' := .int 0) rfl (congrArg Value.int kc_i0) ?_
          exact g_reti rfl (zbool _ (Or.inl rfl)) H
      | 13, _, hx =>
        refine ⟨569, rfl, ?_⟩
        replace H := H.2.2.2.2.2.2.2.2.2.2.2.2.2.2.1 (by omega)
        show zGo (d + 1) m_L_law 618 [.ref 0, .ref 1000, .ref 1031, .ref 1076, .int a4, ua5, ua6, zJ] [] (yz w) (zKi F)
        refine g_s (pc' := 619) rfl ?_
        refine g_s (pc' := 620) rfl ?_
        refine g_s (pc' := 622) rfl ?_
        refine g_psh (pc' := 623) (v' := .int 1) rfl (congrArg Value.int kc_i1) ?_
        refine g_s (pc' := 624) (st' := [.int (a4 + (1 : Int32)), .ref 0, .ref 1000]) rfl ?_
        obtain ⟨hi90, H⟩ := H
        refine g_iald (pc' := 625) rfl rfl rfl rfl hS1 (Or.inr rfl) hi90 ?_
        refine g_s (pc' := 626) rfl ?_
        refine g_calli (a := m_L_output) (as := [.ref 1000, .int (yA w 0 (Int32.toNatClampNeg (a4 + (1 : Int32)))), .ref 1076]) (rest := []) (ls0 := [.ref 1000, .int (yA w 0 (Int32.toNatClampNeg (a4 + (1 : Int32)))), .ref 1076, zJ]) (pc' := 629) (t_stat rfl (Or.inl rfl) rfl rfl rfl rfl) rfl rfl rfl ?_
        refine zGo.mono H (zKi_mono ?_)
        intro v92 w91 H
        refine g_ist (k := 5) (pc' := 631) (ls' := [.ref 0, .ref 1000, .ref 1031, .ref 1076, .int a4, .int v92, ua6, zJ]) rfl rfl rfl rfl (zst1_of rfl (Or.inr rfl) rfl) ?_
        refine g_s (pc' := 632) rfl ?_
        refine g_s (pc' := 633) rfl ?_
        refine g_s (pc' := 635) rfl ?_
        refine g_psh (pc' := 636) (v' := .int 1) rfl (congrArg Value.int kc_i1) ?_
        refine g_s (pc' := 637) (st' := [.int (a4 + (1 : Int32)), .ref 0, .ref 1031]) rfl ?_
        obtain ⟨hS93, H⟩ := H
        obtain ⟨hi94, H⟩ := H
        refine g_iald (pc' := 638) rfl rfl rfl rfl hS93 (Or.inr rfl) hi94 ?_
        refine g_calli (a := m_X9_output) (as := [.ref 1031, .int (yA w91 0 (Int32.toNatClampNeg (a4 + (1 : Int32))))]) (rest := []) (ls0 := [.ref 1031, .int (yA w91 0 (Int32.toNatClampNeg (a4 + (1 : Int32))))]) (pc' := 641) (t_virt rfl rfl rfl rfl rfl rfl) rfl rfl rfl ?_
        refine zGo.mono H (zKi_mono ?_)
        intro v96 w95 H
        refine g_ist (k := 6) (pc' := 643) (ls' := [.ref 0, .ref 1000, .ref 1031, .ref 1076, .int a4, .int v92, .int v96, zJ]) rfl rfl rfl rfl (zst1_of rfl (Or.inr rfl) rfl) ?_
        refine g_s (pc' := 644) rfl ?_
        refine g_calli (a := m_X9_thrown) (as := [.ref 1031]) (rest := []) (ls0 := [.ref 1031]) (pc' := 647) (t_virt rfl rfl rfl rfl rfl rfl) rfl rfl rfl ?_
        refine zGo.mono H (zKi_mono ?_)
        intro v98 w97 H
        refine g_s (pc' := 649) rfl ?_
        refine g_iceq (pc' := 652) rfl rfl (fun hc => ?_) (fun hc => ?_)
        · replace H := H.1 hc
          refine g_s (pc' := 656) rfl ?_
          refine g_ifne (pc' := 659) rfl rfl (fun hc => ?_) (fun hc => ?_)
          · replace H := H.1 hc
            refine g_s (pc' := 660) rfl ?_
            refine g_psh (pc' := 661) (v' := .int 0) rfl (congrArg Value.int kc_i0) ?_
            refine g_lald (pc' := 662) rfl rfl rfl rfl rfl ⟨by decide, by decide⟩ ?_
            refine g_s (pc' := 664) rfl ?_
            refine g_s (pc' := 665) (st' := [.long (Int32.toInt64 v96), .long (yB w97 1076 (Int32.toNatClampNeg (0 : Int32)))]) rfl ?_
            refine g_s (pc' := 666) (st' := [.int (lg_cmp (yB w97 1076 (Int32.toNatClampNeg (0 : Int32))) (Int32.toInt64 v96))]) rfl ?_
            refine g_ifeq (pc' := 669) rfl rfl (fun hc => ?_) (fun hc => ?_)
            · replace H := H.1 hc
              refine g_s (pc' := 1089) rfl ?_
              refine g_inc (pc' := 1092) (ls' := [.ref 0, .ref 1000, .ref 1031, .ref 1076, .int (a4 + 4), .int v92, .int v96, zJ]) rfl rfl rfl kc_i4 (zst1_of rfl (Or.inr rfl) rfl) ?_
              refine g_s (pc' := 33) rfl ?_
              exact H
            · replace H := H.2 hc
              refine g_psh (pc' := 670) (v' := .int 0) rfl (congrArg Value.int kc_i0) ?_
              exact g_reti rfl (zbool _ (Or.inl rfl)) H
          · replace H := H.2 hc
            refine g_s (pc' := 1089) rfl ?_
            refine g_inc (pc' := 1092) (ls' := [.ref 0, .ref 1000, .ref 1031, .ref 1076, .int (a4 + 4), .int v92, .int v96, zJ]) rfl rfl rfl kc_i4 (zst1_of rfl (Or.inr rfl) rfl) ?_
            refine g_s (pc' := 33) rfl ?_
            exact H
        · replace H := H.2 hc
          refine g_psh (pc' := 653) (v' := .int 0) rfl (congrArg Value.int kc_i0) ?_
          exact g_reti rfl (zbool _ (Or.inl rfl)) H
      | 14, _, hx =>
        refine ⟨625, rfl, ?_⟩
        replace H := H.2.2.2.2.2.2.2.2.2.2.2.2.2.2.2.1 (by omega)
        show zGo (d + 1) m_L_law 674 [.ref 0, .ref 1000, .ref 1031, .ref 1076, .int a4, ua5, ua6, zJ] [] (yz w) (zKi F)
        refine g_s (pc' := 675) rfl ?_
        refine g_s (pc' := 676) rfl ?_
        refine g_s (pc' := 678) rfl ?_
        refine g_psh (pc' := 679) (v' := .int 1) rfl (congrArg Value.int kc_i1) ?_
        refine g_s (pc' := 680) (st' := [.int (a4 + (1 : Int32)), .ref 0, .ref 1000]) rfl ?_
        obtain ⟨hi99, H⟩ := H
        refine g_iald (pc' := 681) rfl rfl rfl rfl hS1 (Or.inr rfl) hi99 ?_
        refine g_s (pc' := 682) rfl ?_
        refine g_calli (a := m_L_steps) (as := [.ref 1000, .int (yA w 0 (Int32.toNatClampNeg (a4 + (1 : Int32)))), .ref 1076]) (rest := []) (ls0 := [.ref 1000, .int (yA w 0 (Int32.toNatClampNeg (a4 + (1 : Int32)))), .ref 1076, zJ]) (pc' := 685) (t_stat rfl (Or.inl rfl) rfl rfl rfl rfl) rfl rfl rfl ?_
        refine zGo.mono H (zKi_mono ?_)
        intro v101 w100 H
        refine g_ist (k := 5) (pc' := 687) (ls' := [.ref 0, .ref 1000, .ref 1031, .ref 1076, .int a4, .int v101, ua6, zJ]) rfl rfl rfl rfl (zst1_of rfl (Or.inr rfl) rfl) ?_
        refine g_s (pc' := 688) rfl ?_
        refine g_s (pc' := 689) rfl ?_
        refine g_s (pc' := 691) rfl ?_
        refine g_psh (pc' := 692) (v' := .int 1) rfl (congrArg Value.int kc_i1) ?_
        refine g_s (pc' := 693) (st' := [.int (a4 + (1 : Int32)), .ref 0, .ref 1031]) rfl ?_
        obtain ⟨hS102, H⟩ := H
        obtain ⟨hi103, H⟩ := H
        refine g_iald (pc' := 694) rfl rfl rfl rfl hS102 (Or.inr rfl) hi103 ?_
        refine g_calll (a := m_X9_steps) (as := [.ref 1031, .int (yA w100 0 (Int32.toNatClampNeg (a4 + (1 : Int32))))]) (rest := []) (ls0 := [.ref 1031, .int (yA w100 0 (Int32.toNatClampNeg (a4 + (1 : Int32))))]) (pc' := 697) (t_virt rfl rfl rfl rfl rfl rfl) rfl rfl rfl ?_
        refine zGo.mono H (zKl_mono ?_)
        intro v105 w104 H
        refine g_lst (k := 6) (pc' := 699) (ls' := [.ref 0, .ref 1000, .ref 1031, .ref 1076, .int a4, .int v101, .long v105, zJ]) rfl rfl rfl rfl (zst2_of rfl (Or.inr rfl) rfl) ?_
        refine g_s (pc' := 700) rfl ?_
        refine g_calli (a := m_X9_thrown) (as := [.ref 1031]) (rest := []) (ls0 := [.ref 1031]) (pc' := 703) (t_virt rfl rfl rfl rfl rfl rfl) rfl rfl rfl ?_
        refine zGo.mono H (zKi_mono ?_)
        intro v107 w106 H
        refine g_s (pc' := 705) rfl ?_
        refine g_iceq (pc' := 708) rfl rfl (fun hc => ?_) (fun hc => ?_)
        · replace H := H.1 hc
          refine g_s (pc' := 712) rfl ?_
          refine g_ifne (pc' := 715) rfl rfl (fun hc => ?_) (fun hc => ?_)
          · replace H := H.1 hc
            refine g_s (pc' := 716) rfl ?_
            refine g_psh (pc' := 717) (v' := .int 0) rfl (congrArg Value.int kc_i0) ?_
            refine g_lald (pc' := 718) rfl rfl rfl rfl rfl ⟨by decide, by decide⟩ ?_
            refine g_s (pc' := 720) rfl ?_
            refine g_s (pc' := 721) (st' := [.int (lg_cmp (yB w106 1076 (Int32.toNatClampNeg (0 : Int32))) v105)]) rfl ?_
            refine g_ifeq (pc' := 724) rfl rfl (fun hc => ?_) (fun hc => ?_)
            · replace H := H.1 hc
              refine g_s (pc' := 1089) rfl ?_
              refine g_inc (pc' := 1092) (ls' := [.ref 0, .ref 1000, .ref 1031, .ref 1076, .int (a4 + 4), .int v101, .long v105, zJ]) rfl rfl rfl kc_i4 (zst1_of rfl (Or.inr rfl) rfl) ?_
              refine g_s (pc' := 33) rfl ?_
              exact H
            · replace H := H.2 hc
              refine g_psh (pc' := 725) (v' := .int 0) rfl (congrArg Value.int kc_i0) ?_
              exact g_reti rfl (zbool _ (Or.inl rfl)) H
          · replace H := H.2 hc
            refine g_s (pc' := 1089) rfl ?_
            refine g_inc (pc' := 1092) (ls' := [.ref 0, .ref 1000, .ref 1031, .ref 1076, .int (a4 + 4), .int v101, .long v105, zJ]) rfl rfl rfl kc_i4 (zst1_of rfl (Or.inr rfl) rfl) ?_
            refine g_s (pc' := 33) rfl ?_
            exact H
        · replace H := H.2 hc
          refine g_psh (pc' := 709) (v' := .int 0) rfl (congrArg Value.int kc_i0) ?_
          exact g_reti rfl (zbool _ (Or.inl rfl)) H
      | 15, _, hx =>
        refine ⟨680, rfl, ?_⟩
        replace H := H.2.2.2.2.2.2.2.2.2.2.2.2.2.2.2.2.1 (by omega)
        show zGo (d + 1) m_L_law 729 [.ref 0, .ref 1000, .ref 1031, .ref 1076, .int a4, ua5, ua6, zJ] [] (yz w) (zKi F)
        refine g_s (pc' := 730) rfl ?_
        refine g_s (pc' := 731) rfl ?_
        refine g_s (pc' := 733) rfl ?_
        refine g_psh (pc' := 734) (v' := .int 1) rfl (congrArg Value.int kc_i1) ?_
        refine g_s (pc' := 735) (st' := [.int (a4 + (1 : Int32)), .ref 0, .ref 1000]) rfl ?_
        obtain ⟨hi108, H⟩ := H
        refine g_iald (pc' := 736) rfl rfl rfl rfl hS1 (Or.inr rfl) hi108 ?_
        refine g_s (pc' := 737) rfl ?_
        refine g_calli (a := m_L_heat) (as := [.ref 1000, .int (yA w 0 (Int32.toNatClampNeg (a4 + (1 : Int32)))), .ref 1076]) (rest := []) (ls0 := [.ref 1000, .int (yA w 0 (Int32.toNatClampNeg (a4 + (1 : Int32)))), .ref 1076, zJ]) (pc' := 740) (t_stat rfl (Or.inl rfl) rfl rfl rfl rfl) rfl rfl rfl ?_
        refine zGo.mono H (zKi_mono ?_)
        intro v110 w109 H
        refine g_ist (k := 5) (pc' := 742) (ls' := [.ref 0, .ref 1000, .ref 1031, .ref 1076, .int a4, .int v110, ua6, zJ]) rfl rfl rfl rfl (zst1_of rfl (Or.inr rfl) rfl) ?_
        refine g_s (pc' := 743) rfl ?_
        refine g_s (pc' := 744) rfl ?_
        refine g_s (pc' := 746) rfl ?_
        refine g_psh (pc' := 747) (v' := .int 1) rfl (congrArg Value.int kc_i1) ?_
        refine g_s (pc' := 748) (st' := [.int (a4 + (1 : Int32)), .ref 0, .ref 1031]) rfl ?_
        obtain ⟨hS111, H⟩ := H
        obtain ⟨hi112, H⟩ := H
        refine g_iald (pc' := 749) rfl rfl rfl rfl hS111 (Or.inr rfl) hi112 ?_
        refine g_calli (a := m_X9_heat) (as := [.ref 1031, .int (yA w109 0 (Int32.toNatClampNeg (a4 + (1 : Int32))))]) (rest := []) (ls0 := [.ref 1031, .int (yA w109 0 (Int32.toNatClampNeg (a4 + (1 : Int32))))]) (pc' := 752) (t_virt rfl rfl rfl rfl rfl rfl) rfl rfl rfl ?_
        refine zGo.mono H (zKi_mono ?_)
        intro v114 w113 H
        refine g_ist (k := 6) (pc' := 754) (ls' := [.ref 0, .ref 1000, .ref 1031, .ref 1076, .int a4, .int v110, .int v114, zJ]) rfl rfl rfl rfl (zst1_of rfl (Or.inr rfl) rfl) ?_
        refine g_s (pc' := 755) rfl ?_
        refine g_calli (a := m_X9_thrown) (as := [.ref 1031]) (rest := []) (ls0 := [.ref 1031]) (pc' := 758) (t_virt rfl rfl rfl rfl rfl rfl) rfl rfl rfl ?_
        refine zGo.mono H (zKi_mono ?_)
        intro v116 w115 H
        refine g_s (pc' := 760) rfl ?_
        refine g_iceq (pc' := 763) rfl rfl (fun hc => ?_) (fun hc => ?_)
        · replace H := H.1 hc
          refine g_s (pc' := 767) rfl ?_
          refine g_ifne (pc' := 770) rfl rfl (fun hc => ?_) (fun hc => ?_)
          · replace H := H.1 hc
            refine g_s (pc' := 771) rfl ?_
            refine g_psh (pc' := 772) (v' := .int 0) rfl (congrArg Value.int kc_i0) ?_
            refine g_lald (pc' := 773) rfl rfl rfl rfl rfl ⟨by decide, by decide⟩ ?_
            refine g_s (pc' := 775) rfl ?_
            refine g_s (pc' := 776) (st' := [.long (Int32.toInt64 v114), .long (yB w115 1076 (Int32.toNatClampNeg (0 : Int32)))]) rfl ?_
            refine g_s (pc' := 777) (st' := [.int (lg_cmp (yB w115 1076 (Int32.toNatClampNeg (0 : Int32))) (Int32.toInt64 v114))]) rfl ?_
            refine g_ifeq (pc' := 780) rfl rfl (fun hc => ?_) (fun hc => ?_)
            · replace H := H.1 hc
              refine g_s (pc' := 1089) rfl ?_
              refine g_inc (pc' := 1092) (ls' := [.ref 0, .ref 1000, .ref 1031, .ref 1076, .int (a4 + 4), .int v110, .int v114, zJ]) rfl rfl rfl kc_i4 (zst1_of rfl (Or.inr rfl) rfl) ?_
              refine g_s (pc' := 33) rfl ?_
              exact H
            · replace H := H.2 hc
              refine g_psh (pc' := 781) (v' := .int 0) rfl (congrArg Value.int kc_i0) ?_
              exact g_reti rfl (zbool _ (Or.inl rfl)) H
          · replace H := H.2 hc
            refine g_s (pc' := 1089) rfl ?_
            refine g_inc (pc' := 1092) (ls' := [.ref 0, .ref 1000, .ref 1031, .ref 1076, .int (a4 + 4), .int v110, .int v114, zJ]) rfl rfl rfl kc_i4 (zst1_of rfl (Or.inr rfl) rfl) ?_
            refine g_s (pc' := 33) rfl ?_
            exact H
        · replace H := H.2 hc
          refine g_psh (pc' := 764) (v' := .int 0) rfl (congrArg Value.int kc_i0) ?_
          exact g_reti rfl (zbool _ (Or.inl rfl)) H
      | 16, _, hx =>
        refine ⟨736, rfl, ?_⟩
        replace H := H.2.2.2.2.2.2.2.2.2.2.2.2.2.2.2.2.2.1 (by omega)
        show zGo (d + 1) m_L_law 785 [.ref 0, .ref 1000, .ref 1031, .ref 1076, .int a4, ua5, ua6, zJ] [] (yz w) (zKi F)
        refine g_s (pc' := 786) rfl ?_
        refine g_calli (a := m_X8_traces) (as := [.ref 1000]) (rest := []) (ls0 := [.ref 1000]) (pc' := 789) (t_virt rfl rfl rfl rfl rfl rfl) rfl rfl rfl ?_
        refine zGo.mono H (zKi_mono ?_)
        intro v118 w117 H
        refine g_s (pc' := 790) rfl ?_
        refine g_calli (a := m_X9_traces) (as := [.ref 1031]) (rest := [.int v118]) (ls0 := [.ref 1031]) (pc' := 793) (t_virt rfl rfl rfl rfl rfl rfl) rfl rfl rfl ?_
        refine zGo.mono H (zKi_mono ?_)
        intro v120 w119 H
        refine g_iceq (pc' := 796) rfl rfl (fun hc => ?_) (fun hc => ?_)
        · replace H := H.1 hc
          refine g_inc (pc' := 1092) (ls' := [.ref 0, .ref 1000, .ref 1031, .ref 1076, .int (a4 + 4), ua5, ua6, zJ]) rfl rfl rfl kc_i4 (zst1_of rfl (Or.inr rfl) rfl) ?_
          refine g_s (pc' := 33) rfl ?_
          exact H
        · replace H := H.2 hc
          refine g_psh (pc' := 797) (v' := .int 0) rfl (congrArg Value.int kc_i0) ?_
          exact g_reti rfl (zbool _ (Or.inl rfl)) H
      | 17, _, hx =>
        refine ⟨749, rfl, ?_⟩
        replace H := H.2.2.2.2.2.2.2.2.2.2.2.2.2.2.2.2.2.2.1 (by omega)
        show zGo (d + 1) m_L_law 798 [.ref 0, .ref 1000, .ref 1031, .ref 1076, .int a4, ua5, ua6, zJ] [] (yz w) (zKi F)
        refine g_s (pc' := 799) rfl ?_
        refine g_s (pc' := 800) rfl ?_
        refine g_s (pc' := 802) rfl ?_
        refine g_psh (pc' := 803) (v' := .int 1) rfl (congrArg Value.int kc_i1) ?_
        refine g_s (pc' := 804) (st' := [.int (a4 + (1 : Int32)), .ref 0, .ref 1000]) rfl ?_
        obtain ⟨hi121, H⟩ := H
        refine g_iald (pc' := 805) rfl rfl rfl rfl hS1 (Or.inr rfl) hi121 ?_
        refine g_s (pc' := 806) rfl ?_
        refine g_calli (a := m_L_traceAt) (as := [.ref 1000, .int (yA w 0 (Int32.toNatClampNeg (a4 + (1 : Int32)))), .ref 1076]) (rest := []) (ls0 := [.ref 1000, .int (yA w 0 (Int32.toNatClampNeg (a4 + (1 : Int32)))), .ref 1076, zJ]) (pc' := 809) (t_stat rfl (Or.inl rfl) rfl rfl rfl rfl) rfl rfl rfl ?_
        refine zGo.mono H (zKi_mono ?_)
        intro v123 w122 H
        refine g_ist (k := 5) (pc' := 811) (ls' := [.ref 0, .ref 1000, .ref 1031, .ref 1076, .int a4, .int v123, ua6, zJ]) rfl rfl rfl rfl (zst1_of rfl (Or.inr rfl) rfl) ?_
        refine g_s (pc' := 812) rfl ?_
        refine g_s (pc' := 813) rfl ?_
        refine g_s (pc' := 815) rfl ?_
        refine g_psh (pc' := 816) (v' := .int 1) rfl (congrArg Value.int kc_i1) ?_
        refine g_s (pc' := 817) (st' := [.int (a4 + (1 : Int32)), .ref 0, .ref 1031]) rfl ?_
        obtain ⟨hS124, H⟩ := H
        obtain ⟨hi125, H⟩ := H
        refine g_iald (pc' := 818) rfl rfl rfl rfl hS124 (Or.inr rfl) hi125 ?_
        refine g_calli (a := m_X9_traceAt) (as := [.ref 1031, .int (yA w122 0 (Int32.toNatClampNeg (a4 + (1 : Int32))))]) (rest := []) (ls0 := [.ref 1031, .int (yA w122 0 (Int32.toNatClampNeg (a4 + (1 : Int32)))), zJ, zJ]) (pc' := 821) (t_virt rfl rfl rfl rfl rfl rfl) rfl rfl rfl ?_
        refine zGo.mono H (zKi_mono ?_)
        intro v127 w126 H
        refine g_ist (k := 6) (pc' := 823) (ls' := [.ref 0, .ref 1000, .ref 1031, .ref 1076, .int a4, .int v123, .int v127, zJ]) rfl rfl rfl rfl (zst1_of rfl (Or.inr rfl) rfl) ?_
        refine g_s (pc' := 824) rfl ?_
        refine g_calli (a := m_X9_thrown) (as := [.ref 1031]) (rest := []) (ls0 := [.ref 1031]) (pc' := 827) (t_virt rfl rfl rfl rfl rfl rfl) rfl rfl rfl ?_
        refine zGo.mono H (zKi_mono ?_)
        intro v129 w128 H
        refine g_s (pc' := 829) rfl ?_
        refine g_iceq (pc' := 832) rfl rfl (fun hc => ?_) (fun hc => ?_)
        · replace H := H.1 hc
          refine g_s (pc' := 836) rfl ?_
          refine g_ifne (pc' := 839) rfl rfl (fun hc => ?_) (fun hc => ?_)
          · replace H := H.1 hc
            refine g_s (pc' := 840) rfl ?_
            refine g_psh (pc' := 841) (v' := .int 0) rfl (congrArg Value.int kc_i0) ?_
            refine g_lald (pc' := 842) rfl rfl rfl rfl rfl ⟨by decide, by decide⟩ ?_
            refine g_s (pc' := 844) rfl ?_
            refine g_s (pc' := 845) (st' := [.long (Int32.toInt64 v127), .long (yB w128 1076 (Int32.toNatClampNeg (0 : Int32)))]) rfl ?_
            refine g_s (pc' := 846) (st' := [.int (lg_cmp (yB w128 1076 (Int32.toNatClampNeg (0 : Int32))) (Int32.toInt64 v127))]) rfl ?_
            refine g_ifeq (pc' := 849) rfl rfl (fun hc => ?_) (fun hc => ?_)
            · replace H := H.1 hc
              refine g_s (pc' := 1089) rfl ?_
              refine g_inc (pc' := 1092) (ls' := [.ref 0, .ref 1000, .ref 1031, .ref 1076, .int (a4 + 4), .int v123, .int v127, zJ]) rfl rfl rfl kc_i4 (zst1_of rfl (Or.inr rfl) rfl) ?_
              refine g_s (pc' := 33) rfl ?_
              exact H
            · replace H := H.2 hc
              refine g_psh (pc' := 850) (v' := .int 0) rfl (congrArg Value.int kc_i0) ?_
              exact g_reti rfl (zbool _ (Or.inl rfl)) H
          · replace H := H.2 hc
            refine g_s (pc' := 1089) rfl ?_
            refine g_inc (pc' := 1092) (ls' := [.ref 0, .ref 1000, .ref 1031, .ref 1076, .int (a4 + 4), .int v123, .int v127, zJ]) rfl rfl rfl kc_i4 (zst1_of rfl (Or.inr rfl) rfl) ?_
            refine g_s (pc' := 33) rfl ?_
            exact H
        · replace H := H.2 hc
          refine g_psh (pc' := 833) (v' := .int 0) rfl (congrArg Value.int kc_i0) ?_
          exact g_reti rfl (zbool _ (Or.inl rfl)) H
      | 18, _, hx =>
        refine ⟨805, rfl, ?_⟩
        replace H := H.2.2.2.2.2.2.2.2.2.2.2.2.2.2.2.2.2.2.2.1 (by omega)
        show zGo (d + 1) m_L_law 854 [.ref 0, .ref 1000, .ref 1031, .ref 1076, .int a4, ua5, ua6, zJ] [] (yz w) (zKi F)
        refine g_s (pc' := 855) rfl ?_
        refine g_s (pc' := 856) rfl ?_
        refine g_s (pc' := 858) rfl ?_
        refine g_psh (pc' := 859) (v' := .int 1) rfl (congrArg Value.int kc_i1) ?_
        refine g_s (pc' := 860) (st' := [.int (a4 + (1 : Int32)), .ref 0, .ref 1000]) rfl ?_
        obtain ⟨hi130, H⟩ := H
        refine g_iald (pc' := 861) rfl rfl rfl rfl hS1 (Or.inr rfl) hi130 ?_
        refine g_s (pc' := 862) rfl ?_
        refine g_s (pc' := 864) rfl ?_
        refine g_psh (pc' := 865) (v' := .int 2) rfl (congrArg Value.int kc_i2) ?_
        refine g_s (pc' := 866) (st' := [.int (a4 + (2 : Int32)), .ref 0, .int (yA w 0 (Int32.toNatClampNeg (a4 + (1 : Int32)))), .ref 1000]) rfl ?_
        obtain ⟨hi131, H⟩ := H
        refine g_iald (pc' := 867) rfl rfl rfl rfl hS1 (Or.inr rfl) hi131 ?_
        refine g_s (pc' := 868) rfl ?_
        refine g_calli (a := m_L_trace) (as := [.ref 1000, .int (yA w 0 (Int32.toNatClampNeg (a4 + (1 : Int32)))), .int (yA w 0 (Int32.toNatClampNeg (a4 + (2 : Int32)))), .ref 1076]) (rest := []) (ls0 := [.ref 1000, .int (yA w 0 (Int32.toNatClampNeg (a4 + (1 : Int32)))), .int (yA w 0 (Int32.toNatClampNeg (a4 + (2 : Int32)))), .ref 1076, zJ]) (pc' := 871) (t_stat rfl (Or.inl rfl) rfl rfl rfl rfl) rfl rfl rfl ?_
        refine zGo.mono H (zKi_mono ?_)
        intro v133 w132 H
        refine g_ist (k := 5) (pc' := 873) (ls' := [.ref 0, .ref 1000, .ref 1031, .ref 1076, .int a4, .int v133, ua6, zJ]) rfl rfl rfl rfl (zst1_of rfl (Or.inr rfl) rfl) ?_
        refine g_s (pc' := 874) rfl ?_
        refine g_s (pc' := 875) rfl ?_
        refine g_s (pc' := 877) rfl ?_
        refine g_psh (pc' := 878) (v' := .int 1) rfl (congrArg Value.int kc_i1) ?_
        refine g_s (pc' := 879) (st' := [.int (a4 + (1 : Int32)), .ref 0, .ref 1031]) rfl ?_
        obtain ⟨hS134, H⟩ := H
        obtain ⟨hi135, H⟩ := H
        refine g_iald (pc' := 880) rfl rfl rfl rfl hS134 (Or.inr rfl) hi135 ?_
        refine g_s (pc' := 881) rfl ?_
        refine g_s (pc' := 883) rfl ?_
        refine g_psh (pc' := 884) (v' := .int 2) rfl (congrArg Value.int kc_i2) ?_
        refine g_s (pc' := 885) (st' := [.int (a4 + (2 : Int32)), .ref 0, .int (yA w132 0 (Int32.toNatClampNeg (a4 + (1 : Int32)))), .ref 1031]) rfl ?_
        obtain ⟨hi136, H⟩ := H
        refine g_iald (pc' := 886) rfl rfl rfl rfl hS134 (Or.inr rfl) hi136 ?_
        refine g_calli (a := m_X9_trace) (as := [.ref 1031, .int (yA w132 0 (Int32.toNatClampNeg (a4 + (1 : Int32)))), .int (yA w132 0 (Int32.toNatClampNeg (a4 + (2 : Int32))))]) (rest := []) (ls0 := [.ref 1031, .int (yA w132 0 (Int32.toNatClampNeg (a4 + (1 : Int32)))), .int (yA w132 0 (Int32.toNatClampNeg (a4 + (2 : Int32)))), zJ]) (pc' := 889) (t_virt rfl rfl rfl rfl rfl rfl) rfl rfl rfl ?_
        refine zGo.mono H (zKi_mono ?_)
        intro v138 w137 H
        refine g_ist (k := 6) (pc' := 891) (ls' := [.ref 0, .ref 1000, .ref 1031, .ref 1076, .int a4, .int v133, .int v138, zJ]) rfl rfl rfl rfl (zst1_of rfl (Or.inr rfl) rfl) ?_
        refine g_s (pc' := 892) rfl ?_
        refine g_calli (a := m_X9_thrown) (as := [.ref 1031]) (rest := []) (ls0 := [.ref 1031]) (pc' := 895) (t_virt rfl rfl rfl rfl rfl rfl) rfl rfl rfl ?_
        refine zGo.mono H (zKi_mono ?_)
        intro v140 w139 H
        refine g_s (pc' := 897) rfl ?_
        refine g_iceq (pc' := 900) rfl rfl (fun hc => ?_) (fun hc => ?_)
        · replace H := H.1 hc
          refine g_s (pc' := 904) rfl ?_
          refine g_ifne (pc' := 907) rfl rfl (fun hc => ?_) (fun hc => ?_)
          · replace H := H.1 hc
            refine g_s (pc' := 908) rfl ?_
            refine g_psh (pc' := 909) (v' := .int 0) rfl (congrArg Value.int kc_i0) ?_
            refine g_lald (pc' := 910) rfl rfl rfl rfl rfl ⟨by decide, by decide⟩ ?_
            refine g_s (pc' := 912) rfl ?_
            refine g_s (pc' := 913) (st' := [.long (Int32.toInt64 v138), .long (yB w139 1076 (Int32.toNatClampNeg (0 : Int32)))]) rfl ?_
            refine g_s (pc' := 914) (st' := [.int (lg_cmp (yB w139 1076 (Int32.toNatClampNeg (0 : Int32))) (Int32.toInt64 v138))]) rfl ?_
            refine g_ifeq (pc' := 917) rfl rfl (fun hc => ?_) (fun hc => ?_)
            · replace H := H.1 hc
              refine g_s (pc' := 1089) rfl ?_
              refine g_inc (pc' := 1092) (ls' := [.ref 0, .ref 1000, .ref 1031, .ref 1076, .int (a4 + 4), .int v133, .int v138, zJ]) rfl rfl rfl kc_i4 (zst1_of rfl (Or.inr rfl) rfl) ?_
              refine g_s (pc' := 33) rfl ?_
              exact H
            · replace H := H.2 hc
              refine g_psh (pc' := 918) (v' := .int 0) rfl (congrArg Value.int kc_i0) ?_
              exact g_reti rfl (zbool _ (Or.inl rfl)) H
          · replace H := H.2 hc
            refine g_s (pc' := 1089) rfl ?_
            refine g_inc (pc' := 1092) (ls' := [.ref 0, .ref 1000, .ref 1031, .ref 1076, .int (a4 + 4), .int v133, .int v138, zJ]) rfl rfl rfl kc_i4 (zst1_of rfl (Or.inr rfl) rfl) ?_
            refine g_s (pc' := 33) rfl ?_
            exact H
        · replace H := H.2 hc
          refine g_psh (pc' := 901) (v' := .int 0) rfl (congrArg Value.int kc_i0) ?_
          exact g_reti rfl (zbool _ (Or.inl rfl)) H
      | 19, _, hx =>
        refine ⟨873, rfl, ?_⟩
        replace H := H.2.2.2.2.2.2.2.2.2.2.2.2.2.2.2.2.2.2.2.2.1 (by omega)
        show zGo (d + 1) m_L_law 922 [.ref 0, .ref 1000, .ref 1031, .ref 1076, .int a4, ua5, ua6, zJ] [] (yz w) (zKi F)
        refine g_s (pc' := 923) rfl ?_
        refine g_s (pc' := 924) rfl ?_
        refine g_s (pc' := 926) rfl ?_
        refine g_psh (pc' := 927) (v' := .int 1) rfl (congrArg Value.int kc_i1) ?_
        refine g_s (pc' := 928) (st' := [.int (a4 + (1 : Int32)), .ref 0, .ref 1000]) rfl ?_
        obtain ⟨hi141, H⟩ := H
        refine g_iald (pc' := 929) rfl rfl rfl rfl hS1 (Or.inr rfl) hi141 ?_
        refine g_s (pc' := 930) rfl ?_
        refine g_s (pc' := 932) rfl ?_
        refine g_psh (pc' := 933) (v' := .int 2) rfl (congrArg Value.int kc_i2) ?_
        refine g_s (pc' := 934) (st' := [.int (a4 + (2 : Int32)), .ref 0, .int (yA w 0 (Int32.toNatClampNeg (a4 + (1 : Int32)))), .ref 1000]) rfl ?_
        obtain ⟨hi142, H⟩ := H
        refine g_iald (pc' := 935) rfl rfl rfl rfl hS1 (Or.inr rfl) hi142 ?_
        refine g_s (pc' := 936) rfl ?_
        refine g_s (pc' := 938) rfl ?_
        refine g_psh (pc' := 939) (v' := .int 3) rfl (congrArg Value.int kc_i3) ?_
        refine g_s (pc' := 940) (st' := [.int (a4 + (3 : Int32)), .ref 0, .int (yA w 0 (Int32.toNatClampNeg (a4 + (2 : Int32)))), .int (yA w 0 (Int32.toNatClampNeg (a4 + (1 : Int32)))), .ref 1000]) rfl ?_
        obtain ⟨hi143, H⟩ := H
        refine g_iald (pc' := 941) rfl rfl rfl rfl hS1 (Or.inr rfl) hi143 ?_
        refine g_s (pc' := 942) rfl ?_
        refine g_calli (a := m_L_guard) (as := [.ref 1000, .int (yA w 0 (Int32.toNatClampNeg (a4 + (1 : Int32)))), .int (yA w 0 (Int32.toNatClampNeg (a4 + (2 : Int32)))), .int (yA w 0 (Int32.toNatClampNeg (a4 + (3 : Int32)))), .ref 1076]) (rest := []) (ls0 := [.ref 1000, .int (yA w 0 (Int32.toNatClampNeg (a4 + (1 : Int32)))), .int (yA w 0 (Int32.toNatClampNeg (a4 + (2 : Int32)))), .int (yA w 0 (Int32.toNatClampNeg (a4 + (3 : Int32)))), .ref 1076, zJ]) (pc' := 945) (t_stat rfl (Or.inl rfl) rfl rfl rfl rfl) rfl rfl rfl ?_
        refine zGo.mono H (zKi_mono ?_)
        intro v145 w144 H
        refine g_ist (k := 5) (pc' := 947) (ls' := [.ref 0, .ref 1000, .ref 1031, .ref 1076, .int a4, .int v145, ua6, zJ]) rfl rfl rfl rfl (zst1_of rfl (Or.inr rfl) rfl) ?_
        refine g_s (pc' := 948) rfl ?_
        refine g_s (pc' := 949) rfl ?_
        refine g_s (pc' := 951) rfl ?_
        refine g_psh (pc' := 952) (v' := .int 1) rfl (congrArg Value.int kc_i1) ?_
        refine g_s (pc' := 953) (st' := [.int (a4 + (1 : Int32)), .ref 0, .ref 1031]) rfl ?_
        obtain ⟨hS146, H⟩ := H
        obtain ⟨hi147, H⟩ := H
        refine g_iald (pc' := 954) rfl rfl rfl rfl hS146 (Or.inr rfl) hi147 ?_
        refine g_s (pc' := 955) rfl ?_
        refine g_s (pc' := 957) rfl ?_
        refine g_psh (pc' := 958) (v' := .int 2) rfl (congrArg Value.int kc_i2) ?_
        refine g_s (pc' := 959) (st' := [.int (a4 + (2 : Int32)), .ref 0, .int (yA w144 0 (Int32.toNatClampNeg (a4 + (1 : Int32)))), .ref 1031]) rfl ?_
        obtain ⟨hi148, H⟩ := H
        refine g_iald (pc' := 960) rfl rfl rfl rfl hS146 (Or.inr rfl) hi148 ?_
        refine g_s (pc' := 961) rfl ?_
        refine g_s (pc' := 963) rfl ?_
        refine g_psh (pc' := 964) (v' := .int 3) rfl (congrArg Value.int kc_i3) ?_
        refine g_s (pc' := 965) (st' := [.int (a4 + (3 : Int32)), .ref 0, .int (yA w144 0 (Int32.toNatClampNeg (a4 + (2 : Int32)))), .int (yA w144 0 (Int32.toNatClampNeg (a4 + (1 : Int32)))), .ref 1031]) rfl ?_
        obtain ⟨hi149, H⟩ := H
        refine g_iald (pc' := 966) rfl rfl rfl rfl hS146 (Or.inr rfl) hi149 ?_
        refine g_calli (a := m_X9_guard_) (as := [.ref 1031, .int (yA w144 0 (Int32.toNatClampNeg (a4 + (1 : Int32)))), .int (yA w144 0 (Int32.toNatClampNeg (a4 + (2 : Int32)))), .int (yA w144 0 (Int32.toNatClampNeg (a4 + (3 : Int32))))]) (rest := []) (ls0 := [.ref 1031, .int (yA w144 0 (Int32.toNatClampNeg (a4 + (1 : Int32)))), .int (yA w144 0 (Int32.toNatClampNeg (a4 + (2 : Int32)))), .int (yA w144 0 (Int32.toNatClampNeg (a4 + (3 : Int32)))), zJ, zJ, zJ]) (pc' := 969) (t_virt rfl rfl rfl rfl rfl rfl) rfl rfl rfl ?_
        refine zGo.mono H (zKi_mono ?_)
        intro v151 w150 H
        refine g_ist (k := 6) (pc' := 971) (ls' := [.ref 0, .ref 1000, .ref 1031, .ref 1076, .int a4, .int v145, .int v151, zJ]) rfl rfl rfl rfl (zst1_of rfl (Or.inr rfl) rfl) ?_
        refine g_s (pc' := 972) rfl ?_
        refine g_calli (a := m_X9_thrown) (as := [.ref 1031]) (rest := []) (ls0 := [.ref 1031]) (pc' := 975) (t_virt rfl rfl rfl rfl rfl rfl) rfl rfl rfl ?_
        refine zGo.mono H (zKi_mono ?_)
        intro v153 w152 H
        refine g_s (pc' := 977) rfl ?_
        refine g_iceq (pc' := 980) rfl rfl (fun hc => ?_) (fun hc => ?_)
        · replace H := H.1 hc
          refine g_s (pc' := 984) rfl ?_
          refine g_ifne (pc' := 987) rfl rfl (fun hc => ?_) (fun hc => ?_)
          · replace H := H.1 hc
            refine g_s (pc' := 988) rfl ?_
            refine g_psh (pc' := 989) (v' := .int 0) rfl (congrArg Value.int kc_i0) ?_
            refine g_lald (pc' := 990) rfl rfl rfl rfl rfl ⟨by decide, by decide⟩ ?_
            refine g_s (pc' := 992) rfl ?_
            refine g_s (pc' := 993) (st' := [.long (Int32.toInt64 v151), .long (yB w152 1076 (Int32.toNatClampNeg (0 : Int32)))]) rfl ?_
            refine g_s (pc' := 994) (st' := [.int (lg_cmp (yB w152 1076 (Int32.toNatClampNeg (0 : Int32))) (Int32.toInt64 v151))]) rfl ?_
            refine g_ifeq (pc' := 997) rfl rfl (fun hc => ?_) (fun hc => ?_)
            · replace H := H.1 hc
              refine g_s (pc' := 1089) rfl ?_
              refine g_inc (pc' := 1092) (ls' := [.ref 0, .ref 1000, .ref 1031, .ref 1076, .int (a4 + 4), .int v145, .int v151, zJ]) rfl rfl rfl kc_i4 (zst1_of rfl (Or.inr rfl) rfl) ?_
              refine g_s (pc' := 33) rfl ?_
              exact H
            · replace H := H.2 hc
              refine g_psh (pc' := 998) (v' := .int 0) rfl (congrArg Value.int kc_i0) ?_
              exact g_reti rfl (zbool _ (Or.inl rfl)) H
          · replace H := H.2 hc
            refine g_s (pc' := 1089) rfl ?_
            refine g_inc (pc' := 1092) (ls' := [.ref 0, .ref 1000, .ref 1031, .ref 1076, .int (a4 + 4), .int v145, .int v151, zJ]) rfl rfl rfl kc_i4 (zst1_of rfl (Or.inr rfl) rfl) ?_
            refine g_s (pc' := 33) rfl ?_
            exact H
        · replace H := H.2 hc
          refine g_psh (pc' := 981) (v' := .int 0) rfl (congrArg Value.int kc_i0) ?_
          exact g_reti rfl (zbool _ (Or.inl rfl)) H
      | 20, _, hx =>
        refine ⟨953, rfl, ?_⟩
        replace H := H.2.2.2.2.2.2.2.2.2.2.2.2.2.2.2.2.2.2.2.2.2.1 (by omega)
        show zGo (d + 1) m_L_law 1002 [.ref 0, .ref 1000, .ref 1031, .ref 1076, .int a4, ua5, ua6, zJ] [] (yz w) (zKi F)
        refine g_s (pc' := 1003) rfl ?_
        refine g_calli (a := m_X8_recording) (as := [.ref 1000]) (rest := []) (ls0 := [.ref 1000]) (pc' := 1006) (t_virt rfl rfl rfl rfl rfl rfl) rfl rfl rfl ?_
        refine zGo.mono H (zKi_mono ?_)
        intro v155 w154 H
        refine g_s (pc' := 1007) rfl ?_
        refine g_calli (a := m_X9_recording) (as := [.ref 1031]) (rest := [.int v155]) (ls0 := [.ref 1031]) (pc' := 1010) (t_virt rfl rfl rfl rfl rfl rfl) rfl rfl rfl ?_
        refine zGo.mono H (zKi_mono ?_)
        intro v157 w156 H
        refine g_iceq (pc' := 1013) rfl rfl (fun hc => ?_) (fun hc => ?_)
        · replace H := H.1 hc
          refine g_inc (pc' := 1092) (ls' := [.ref 0, .ref 1000, .ref 1031, .ref 1076, .int (a4 + 4), ua5, ua6, zJ]) rfl rfl rfl kc_i4 (zst1_of rfl (Or.inr rfl) rfl) ?_
          refine g_s (pc' := 33) rfl ?_
          exact H
        · replace H := H.2 hc
          refine g_psh (pc' := 1014) (v' := .int 0) rfl (congrArg Value.int kc_i0) ?_
          exact g_reti rfl (zbool _ (Or.inl rfl)) H
      | 21, _, hx =>
        refine ⟨966, rfl, ?_⟩
        replace H := H.2.2.2.2.2.2.2.2.2.2.2.2.2.2.2.2.2.2.2.2.2.2.1 (by omega)
        show zGo (d + 1) m_L_law 1015 [.ref 0, .ref 1000, .ref 1031, .ref 1076, .int a4, ua5, ua6, zJ] [] (yz w) (zKi F)
        refine g_s (pc' := 1016) rfl ?_
        refine g_s (pc' := 1017) rfl ?_
        refine g_s (pc' := 1019) rfl ?_
        refine g_psh (pc' := 1020) (v' := .int 1) rfl (congrArg Value.int kc_i1) ?_
        refine g_s (pc' := 1021) (st' := [.int (a4 + (1 : Int32)), .ref 0, .ref 1000]) rfl ?_
        obtain ⟨hi158, H⟩ := H
        refine g_iald (pc' := 1022) rfl rfl rfl rfl hS1 (Or.inr rfl) hi158 ?_
        refine g_s (pc' := 1023) rfl ?_
        refine g_calli (a := m_L_invalidate) (as := [.ref 1000, .int (yA w 0 (Int32.toNatClampNeg (a4 + (1 : Int32)))), .ref 1076]) (rest := []) (ls0 := [.ref 1000, .int (yA w 0 (Int32.toNatClampNeg (a4 + (1 : Int32)))), .ref 1076, zJ]) (pc' := 1026) (t_stat rfl (Or.inl rfl) rfl rfl rfl rfl) rfl rfl rfl ?_
        refine zGo.mono H (zKi_mono ?_)
        intro v160 w159 H
        refine g_ist (k := 5) (pc' := 1028) (ls' := [.ref 0, .ref 1000, .ref 1031, .ref 1076, .int a4, .int v160, ua6, zJ]) rfl rfl rfl rfl (zst1_of rfl (Or.inr rfl) rfl) ?_
        refine g_s (pc' := 1029) rfl ?_
        refine g_s (pc' := 1030) rfl ?_
        refine g_s (pc' := 1032) rfl ?_
        refine g_psh (pc' := 1033) (v' := .int 1) rfl (congrArg Value.int kc_i1) ?_
        refine g_s (pc' := 1034) (st' := [.int (a4 + (1 : Int32)), .ref 0, .ref 1031]) rfl ?_
        obtain ⟨hS161, H⟩ := H
        obtain ⟨hi162, H⟩ := H
        refine g_iald (pc' := 1035) rfl rfl rfl rfl hS161 (Or.inr rfl) hi162 ?_
        refine g_calli (a := m_X9_invalidate) (as := [.ref 1031, .int (yA w159 0 (Int32.toNatClampNeg (a4 + (1 : Int32))))]) (rest := []) (ls0 := [.ref 1031, .int (yA w159 0 (Int32.toNatClampNeg (a4 + (1 : Int32)))), zJ]) (pc' := 1038) (t_virt rfl rfl rfl rfl rfl rfl) rfl rfl rfl ?_
        refine zGo.mono H (zKi_mono ?_)
        intro v164 w163 H
        refine g_ist (k := 6) (pc' := 1040) (ls' := [.ref 0, .ref 1000, .ref 1031, .ref 1076, .int a4, .int v160, .int v164, zJ]) rfl rfl rfl rfl (zst1_of rfl (Or.inr rfl) rfl) ?_
        refine g_s (pc' := 1041) rfl ?_
        refine g_calli (a := m_X9_thrown) (as := [.ref 1031]) (rest := []) (ls0 := [.ref 1031]) (pc' := 1044) (t_virt rfl rfl rfl rfl rfl rfl) rfl rfl rfl ?_
        refine zGo.mono H (zKi_mono ?_)
        intro v166 w165 H
        refine g_s (pc' := 1046) rfl ?_
        refine g_iceq (pc' := 1049) rfl rfl (fun hc => ?_) (fun hc => ?_)
        · replace H := H.1 hc
          refine g_s (pc' := 1053) rfl ?_
          refine g_ifne (pc' := 1056) rfl rfl (fun hc => ?_) (fun hc => ?_)
          · replace H := H.1 hc
            refine g_s (pc' := 1057) rfl ?_
            refine g_psh (pc' := 1058) (v' := .int 0) rfl (congrArg Value.int kc_i0) ?_
            refine g_lald (pc' := 1059) rfl rfl rfl rfl rfl ⟨by decide, by decide⟩ ?_
            refine g_s (pc' := 1061) rfl ?_
            refine g_ifeq (pc' := 1064) rfl rfl (fun hc => ?_) (fun hc => ?_)
            · replace H := H.1 hc
              refine g_psh (pc' := 1069) (v' := .long 0) rfl (congrArg Value.long kc_l0) ?_
              refine g_s (pc' := 1070) (st' := [.int (lg_cmp (yB w165 1076 (Int32.toNatClampNeg (0 : Int32))) (0 : Int64))]) rfl ?_
              refine g_ifeq (pc' := 1073) rfl rfl (fun hc => ?_) (fun hc => ?_)
              · replace H := H.1 hc
                refine g_s (pc' := 1089) rfl ?_
                refine g_inc (pc' := 1092) (ls' := [.ref 0, .ref 1000, .ref 1031, .ref 1076, .int (a4 + 4), .int v160, .int v164, zJ]) rfl rfl rfl kc_i4 (zst1_of rfl (Or.inr rfl) rfl) ?_
                refine g_s (pc' := 33) rfl ?_
                exact H
              · replace H := H.2 hc
                refine g_psh (pc' := 1074) (v' := .int 0) rfl (congrArg Value.int kc_i0) ?_
                exact g_reti rfl (zbool _ (Or.inl rfl)) H
            · replace H := H.2 hc
              refine g_psh (pc' := 1065) (v' := .long 1) rfl (congrArg Value.long kc_l1) ?_
              refine g_s (pc' := 1069) rfl ?_
              refine g_s (pc' := 1070) (st' := [.int (lg_cmp (yB w165 1076 (Int32.toNatClampNeg (0 : Int32))) (1 : Int64))]) rfl ?_
              refine g_ifeq (pc' := 1073) rfl rfl (fun hc => ?_) (fun hc => ?_)
              · replace H := H.1 hc
                refine g_s (pc' := 1089) rfl ?_
                refine g_inc (pc' := 1092) (ls' := [.ref 0, .ref 1000, .ref 1031, .ref 1076, .int (a4 + 4), .int v160, .int v164, zJ]) rfl rfl rfl kc_i4 (zst1_of rfl (Or.inr rfl) rfl) ?_
                refine g_s (pc' := 33) rfl ?_
                exact H
              · replace H := H.2 hc
                refine g_psh (pc' := 1074) (v' := .int 0) rfl (congrArg Value.int kc_i0) ?_
                exact g_reti rfl (zbool _ (Or.inl rfl)) H
          · replace H := H.2 hc
            refine g_s (pc' := 1089) rfl ?_
            refine g_inc (pc' := 1092) (ls' := [.ref 0, .ref 1000, .ref 1031, .ref 1076, .int (a4 + 4), .int v160, .int v164, zJ]) rfl rfl rfl kc_i4 (zst1_of rfl (Or.inr rfl) rfl) ?_
            refine g_s (pc' := 33) rfl ?_
            exact H
        · replace H := H.2 hc
          refine g_psh (pc' := 1050) (v' := .int 0) rfl (congrArg Value.int kc_i0) ?_
          exact g_reti rfl (zbool _ (Or.inl rfl)) H
      | 22, _, hx =>
        refine ⟨1029, rfl, ?_⟩
        replace H := H.2.2.2.2.2.2.2.2.2.2.2.2.2.2.2.2.2.2.2.2.2.2.2 (by omega)
        show zGo (d + 1) m_L_law 1078 [.ref 0, .ref 1000, .ref 1031, .ref 1076, .int a4, ua5, ua6, zJ] [] (yz w) (zKi F)
        refine g_s (pc' := 1079) rfl ?_
        refine g_callv (a := m_X8_reset) (as := [.ref 1000]) (rest := []) (ls0 := [.ref 1000]) (pc' := 1082) (t_virt rfl rfl rfl rfl rfl rfl) rfl rfl rfl ?_
        refine zGo.mono H (zKv_mono ?_)
        intro w167 H
        refine g_s (pc' := 1083) rfl ?_
        refine g_callv (a := m_X9_reset) (as := [.ref 1031]) (rest := []) (ls0 := [.ref 1031, zJ]) (pc' := 1086) (t_virt rfl rfl rfl rfl rfl rfl) rfl rfl rfl ?_
        refine zGo.mono H (zKv_mono ?_)
        intro w168 H
        refine g_s (pc' := 1089) rfl ?_
        refine g_inc (pc' := 1092) (ls' := [.ref 0, .ref 1000, .ref 1031, .ref 1076, .int (a4 + 4), ua5, ua6, zJ]) rfl rfl rfl kc_i4 (zst1_of rfl (Or.inr rfl) rfl) ?_
        refine g_s (pc' := 33) rfl ?_
        exact H
      | _ + 23, hj, _ => exact absurd hj (by omega)
set_option maxHeartbeats 4000000 in
theorem B_L_local_0 {d : Nat} {w : zm} {F : Int32 → zm → Prop} (a1 : Int32)
    (H : zGo d m_X8_local 0 [.ref 1000, .int a1] [] (yz w) (zXi (fun v2 w1 => F (0 : Int32) (yuB w1 1076 (Int32.toNatClampNeg (0 : Int32)) (Int32.toInt64 v2))) (fun E w3 => (E = 0 ∧ F (1 : Int32) w3)))) :
    zGo (d + 1) m_L_local 0 [.ref 1000, .int a1, .ref 1076, zJ] [] (yz w) (zKi F) := by
  refine g_s (pc' := 1) rfl ?_
  refine g_psh (pc' := 2) (v' := .int 0) rfl (congrArg Value.int kc_i0) ?_
  refine g_s (pc' := 3) rfl ?_
  refine g_s (pc' := 4) rfl ?_
  refine g_xcalli (a := m_X8_local) (as := [.ref 1000, .int a1]) (rest := [.int (0 : Int32), .ref 1076]) (ls0 := [.ref 1000, .int a1]) (pc' := 7) (t_virt rfl rfl rfl rfl rfl rfl) rfl rfl rfl rfl ?_
  refine zGo.mono H (zXi_mono ?_ ?_)
  · intro v2 w1 H
    refine g_s (pc' := 8) (st' := [.long (Int32.toInt64 v2), .int (0 : Int32), .ref 1076]) rfl ?_
    refine g_last (pc' := 9) rfl rfl rfl rfl rfl rfl ⟨by decide, by decide⟩ ?_
    refine g_s (pc' := 15) rfl ?_
    refine g_psh (pc' := 16) (v' := .int 0) rfl (congrArg Value.int kc_i0) ?_
    exact g_reti rfl rfl H
  · intro E w3 H
    obtain ⟨rfl, H⟩ := H
    refine ⟨(3, 13), [.ref 1000, .int a1, .ref 1076, zJ], rfl, zst1_of rfl (Or.inr rfl) rfl, ?_⟩
    show zGo (d + 1) m_L_local 13 [.ref 1000, .int a1, .ref 1076, zJ] [] (yz w3) (zKi F)
    refine g_psh (pc' := 14) (v' := .int 1) rfl (congrArg Value.int kc_i1) ?_
    exact g_reti rfl rfl H
set_option maxHeartbeats 4000000 in
theorem B_L_memory_0 {d : Nat} {w : zm} {F : Int32 → zm → Prop} (a1 : Int32)
    (H : zGo d m_X8_memory 0 [.ref 1000, .int a1] [] (yz w) (zXi (fun v2 w1 => F (0 : Int32) (yuB w1 1076 (Int32.toNatClampNeg (0 : Int32)) (Int32.toInt64 v2))) (fun E w3 => (E = 0 ∧ F (1 : Int32) w3)))) :
    zGo (d + 1) m_L_memory 0 [.ref 1000, .int a1, .ref 1076, zJ] [] (yz w) (zKi F) := by
  refine g_s (pc' := 1) rfl ?_
  refine g_psh (pc' := 2) (v' := .int 0) rfl (congrArg Value.int kc_i0) ?_
  refine g_s (pc' := 3) rfl ?_
  refine g_s (pc' := 4) rfl ?_
  refine g_xcalli (a := m_X8_memory) (as := [.ref 1000, .int a1]) (rest := [.int (0 : Int32), .ref 1076]) (ls0 := [.ref 1000, .int a1]) (pc' := 7) (t_virt rfl rfl rfl rfl rfl rfl) rfl rfl rfl rfl ?_
  refine zGo.mono H (zXi_mono ?_ ?_)
  · intro v2 w1 H
    refine g_s (pc' := 8) (st' := [.long (Int32.toInt64 v2), .int (0 : Int32), .ref 1076]) rfl ?_
    refine g_last (pc' := 9) rfl rfl rfl rfl rfl rfl ⟨by decide, by decide⟩ ?_
    refine g_s (pc' := 15) rfl ?_
    refine g_psh (pc' := 16) (v' := .int 0) rfl (congrArg Value.int kc_i0) ?_
    exact g_reti rfl rfl H
  · intro E w3 H
    obtain ⟨rfl, H⟩ := H
    refine ⟨(3, 13), [.ref 1000, .int a1, .ref 1076, zJ], rfl, zst1_of rfl (Or.inr rfl) rfl, ?_⟩
    show zGo (d + 1) m_L_memory 13 [.ref 1000, .int a1, .ref 1076, zJ] [] (yz w3) (zKi F)
    refine g_psh (pc' := 14) (v' := .int 1) rfl (congrArg Value.int kc_i1) ?_
    exact g_reti rfl rfl H
set_option maxHeartbeats 4000000 in
theorem B_L_output_0 {d : Nat} {w : zm} {F : Int32 → zm → Prop} (a1 : Int32)
    (H : zGo d m_X8_output 0 [.ref 1000, .int a1] [] (yz w) (zXi (fun v2 w1 => F (0 : Int32) (yuB w1 1076 (Int32.toNatClampNeg (0 : Int32)) (Int32.toInt64 v2))) (fun E w3 => (E = 0 ∧ F (1 : Int32) w3)))) :
    zGo (d + 1) m_L_output 0 [.ref 1000, .int a1, .ref 1076, zJ] [] (yz w) (zKi F) := by
  refine g_s (pc' := 1) rfl ?_
  refine g_psh (pc' := 2) (v' := .int 0) rfl (congrArg Value.int kc_i0) ?_
  refine g_s (pc' := 3) rfl ?_
  refine g_s (pc' := 4) rfl ?_
  refine g_xcalli (a := m_X8_output) (as := [.ref 1000, .int a1]) (rest := [.int (0 : Int32), .ref 1076]) (ls0 := [.ref 1000, .int a1]) (pc' := 7) (t_virt rfl rfl rfl rfl rfl rfl) rfl rfl rfl rfl ?_
  refine zGo.mono H (zXi_mono ?_ ?_)
  · intro v2 w1 H
    refine g_s (pc' := 8) (st' := [.long (Int32.toInt64 v2), .int (0 : Int32), .ref 1076]) rfl ?_
    refine g_last (pc' := 9) rfl rfl rfl rfl rfl rfl ⟨by decide, by decide⟩ ?_
    refine g_s (pc' := 15) rfl ?_
    refine g_psh (pc' := 16) (v' := .int 0) rfl (congrArg Value.int kc_i0) ?_
    exact g_reti rfl rfl H
  · intro E w3 H
    obtain ⟨rfl, H⟩ := H
    refine ⟨(3, 13), [.ref 1000, .int a1, .ref 1076, zJ], rfl, zst1_of rfl (Or.inr rfl) rfl, ?_⟩
    show zGo (d + 1) m_L_output 13 [.ref 1000, .int a1, .ref 1076, zJ] [] (yz w3) (zKi F)
    refine g_psh (pc' := 14) (v' := .int 1) rfl (congrArg Value.int kc_i1) ?_
    exact g_reti rfl rfl H
set_option maxHeartbeats 4000000 in
theorem B_L_poke_0 {d : Nat} {w : zm} {F : Int32 → zm → Prop} (a1 : Int32) (a2 : Int32)
    (H : zGo d m_X8_poke 0 [.ref 1000, .int a1, .int a2] [] (yz w) (zXi (fun v2 w1 => F (0 : Int32) (yuB w1 1076 (Int32.toNatClampNeg (0 : Int32)) (Int32.toInt64 v2))) (fun E w3 => (E = 0 ∧ F (1 : Int32) w3) ∨ (E = 1 ∧ F (2 : Int32) w3)))) :
    zGo (d + 1) m_L_poke 0 [.ref 1000, .int a1, .int a2, .ref 1076, zJ] [] (yz w) (zKi F) := by
  refine g_s (pc' := 1) rfl ?_
  refine g_psh (pc' := 2) (v' := .int 0) rfl (congrArg Value.int kc_i0) ?_
  refine g_s (pc' := 3) rfl ?_
  refine g_s (pc' := 4) rfl ?_
  refine g_s (pc' := 5) rfl ?_
  refine g_xcalli (a := m_X8_poke) (as := [.ref 1000, .int a1, .int a2]) (rest := [.int (0 : Int32), .ref 1076]) (ls0 := [.ref 1000, .int a1, .int a2]) (pc' := 8) (t_virt rfl rfl rfl rfl rfl rfl) rfl rfl rfl rfl ?_
  refine zGo.mono H (zXi_mono ?_ ?_)
  · intro v2 w1 H
    refine g_s (pc' := 9) (st' := [.long (Int32.toInt64 v2), .int (0 : Int32), .ref 1076]) rfl ?_
    refine g_last (pc' := 10) rfl rfl rfl rfl rfl rfl ⟨by decide, by decide⟩ ?_
    refine g_s (pc' := 21) rfl ?_
    refine g_psh (pc' := 22) (v' := .int 0) rfl (congrArg Value.int kc_i0) ?_
    exact g_reti rfl rfl H
  · intro E w3 H
    rcases H with ⟨rfl, H⟩ | ⟨rfl, H⟩
    · refine ⟨(4, 15), [.ref 1000, .int a1, .int a2, .ref 1076, zJ], rfl, zst1_of rfl (Or.inr rfl) rfl, ?_⟩
      show zGo (d + 1) m_L_poke 15 [.ref 1000, .int a1, .int a2, .ref 1076, zJ] [] (yz w3) (zKi F)
      refine g_psh (pc' := 16) (v' := .int 1) rfl (congrArg Value.int kc_i1) ?_
      exact g_reti rfl rfl H
    · refine ⟨(4, 19), [.ref 1000, .int a1, .int a2, .ref 1076, zJ], rfl, zst1_of rfl (Or.inr rfl) rfl, ?_⟩
      show zGo (d + 1) m_L_poke 19 [.ref 1000, .int a1, .int a2, .ref 1076, zJ] [] (yz w3) (zKi F)
      refine g_psh (pc' := 20) (v' := .int 2) rfl (congrArg Value.int kc_i2) ?_
      exact g_reti rfl rfl H
set_option maxHeartbeats 4000000 in
theorem B_L_run_0 {d : Nat} {w : zm} {F : Int32 → zm → Prop} (a1 : Int32)
    (H : zGo d m_X8_run 0 [.ref 1000, .int a1, zJ, zJ, zJ] [] (yz w) (zXi (fun v2 w1 => F (0 : Int32) (yuB w1 1076 (Int32.toNatClampNeg (0 : Int32)) (Int32.toInt64 v2))) (fun E w3 => (E = 2 ∧ F (1 : Int32) w3) ∨ (E = 1 ∧ F (2 : Int32) w3)))) :
    zGo (d + 1) m_L_run 0 [.ref 1000, .int a1, .ref 1076, zJ] [] (yz w) (zKi F) := by
  refine g_s (pc' := 1) rfl ?_
  refine g_psh (pc' := 2) (v' := .int 0) rfl (congrArg Value.int kc_i0) ?_
  refine g_s (pc' := 3) rfl ?_
  refine g_s (pc' := 4) rfl ?_
  refine g_xcalli (a := m_X8_run) (as := [.ref 1000, .int a1]) (rest := [.int (0 : Int32), .ref 1076]) (ls0 := [.ref 1000, .int a1, zJ, zJ, zJ]) (pc' := 7) (t_virt rfl rfl rfl rfl rfl rfl) rfl rfl rfl rfl ?_
  refine zGo.mono H (zXi_mono ?_ ?_)
  · intro v2 w1 H
    refine g_s (pc' := 8) (st' := [.long (Int32.toInt64 v2), .int (0 : Int32), .ref 1076]) rfl ?_
    refine g_last (pc' := 9) rfl rfl rfl rfl rfl rfl ⟨by decide, by decide⟩ ?_
    refine g_s (pc' := 18) rfl ?_
    refine g_psh (pc' := 19) (v' := .int 0) rfl (congrArg Value.int kc_i0) ?_
    exact g_reti rfl rfl H
  · intro E w3 H
    rcases H with ⟨rfl, H⟩ | ⟨rfl, H⟩
    · refine ⟨(3, 13), [.ref 1000, .int a1, .ref 1076, zJ], rfl, zst1_of rfl (Or.inr rfl) rfl, ?_⟩
      show zGo (d + 1) m_L_run 13 [.ref 1000, .int a1, .ref 1076, zJ] [] (yz w3) (zKi F)
      refine g_psh (pc' := 14) (v' := .int 1) rfl (congrArg Value.int kc_i1) ?_
      exact g_reti rfl rfl H
    · refine ⟨(3, 16), [.ref 1000, .int a1, .ref 1076, zJ], rfl, zst1_of rfl (Or.inr rfl) rfl, ?_⟩
      show zGo (d + 1) m_L_run 16 [.ref 1000, .int a1, .ref 1076, zJ] [] (yz w3) (zKi F)
      refine g_psh (pc' := 17) (v' := .int 2) rfl (congrArg Value.int kc_i2) ?_
      exact g_reti rfl rfl H
set_option maxHeartbeats 4000000 in
theorem B_L_setLocal_0 {d : Nat} {w : zm} {F : Int32 → zm → Prop} (a1 : Int32) (a2 : Int32)
    (H : zGo d m_X8_setLocal 0 [.ref 1000, .int a1, .int a2, zJ] [] (yz w) (zXi (fun v2 w1 => F (0 : Int32) (yuB w1 1076 (Int32.toNatClampNeg (0 : Int32)) (Int32.toInt64 v2))) (fun E w3 => (E = 0 ∧ F (1 : Int32) w3) ∨ (E = 1 ∧ F (2 : Int32) w3)))) :
    zGo (d + 1) m_L_setLocal 0 [.ref 1000, .int a1, .int a2, .ref 1076, zJ] [] (yz w) (zKi F) := by
  refine g_s (pc' := 1) rfl ?_
  refine g_psh (pc' := 2) (v' := .int 0) rfl (congrArg Value.int kc_i0) ?_
  refine g_s (pc' := 3) rfl ?_
  refine g_s (pc' := 4) rfl ?_
  refine g_s (pc' := 5) rfl ?_
  refine g_xcalli (a := m_X8_setLocal) (as := [.ref 1000, .int a1, .int a2]) (rest := [.int (0 : Int32), .ref 1076]) (ls0 := [.ref 1000, .int a1, .int a2, zJ]) (pc' := 8) (t_virt rfl rfl rfl rfl rfl rfl) rfl rfl rfl rfl ?_
  refine zGo.mono H (zXi_mono ?_ ?_)
  · intro v2 w1 H
    refine g_s (pc' := 9) (st' := [.long (Int32.toInt64 v2), .int (0 : Int32), .ref 1076]) rfl ?_
    refine g_last (pc' := 10) rfl rfl rfl rfl rfl rfl ⟨by decide, by decide⟩ ?_
    refine g_s (pc' := 21) rfl ?_
    refine g_psh (pc' := 22) (v' := .int 0) rfl (congrArg Value.int kc_i0) ?_
    exact g_reti rfl rfl H
  · intro E w3 H
    rcases H with ⟨rfl, H⟩ | ⟨rfl, H⟩
    · refine ⟨(4, 15), [.ref 1000, .int a1, .int a2, .ref 1076, zJ], rfl, zst1_of rfl (Or.inr rfl) rfl, ?_⟩
      show zGo (d + 1) m_L_setLocal 15 [.ref 1000, .int a1, .int a2, .ref 1076, zJ] [] (yz w3) (zKi F)
      refine g_psh (pc' := 16) (v' := .int 1) rfl (congrArg Value.int kc_i1) ?_
      exact g_reti rfl rfl H
    · refine ⟨(4, 19), [.ref 1000, .int a1, .int a2, .ref 1076, zJ], rfl, zst1_of rfl (Or.inr rfl) rfl, ?_⟩
      show zGo (d + 1) m_L_setLocal 19 [.ref 1000, .int a1, .int a2, .ref 1076, zJ] [] (yz w3) (zKi F)
      refine g_psh (pc' := 20) (v' := .int 2) rfl (congrArg Value.int kc_i2) ?_
      exact g_reti rfl rfl H
set_option maxHeartbeats 4000000 in
theorem B_L_stack_0 {d : Nat} {w : zm} {F : Int32 → zm → Prop} (a1 : Int32)
    (H : zGo d m_X8_stack 0 [.ref 1000, .int a1] [] (yz w) (zXi (fun v2 w1 => F (0 : Int32) (yuB w1 1076 (Int32.toNatClampNeg (0 : Int32)) (Int32.toInt64 v2))) (fun E w3 => (E = 0 ∧ F (1 : Int32) w3)))) :
    zGo (d + 1) m_L_stack 0 [.ref 1000, .int a1, .ref 1076, zJ] [] (yz w) (zKi F) := by
  refine g_s (pc' := 1) rfl ?_
  refine g_psh (pc' := 2) (v' := .int 0) rfl (congrArg Value.int kc_i0) ?_
  refine g_s (pc' := 3) rfl ?_
  refine g_s (pc' := 4) rfl ?_
  refine g_xcalli (a := m_X8_stack) (as := [.ref 1000, .int a1]) (rest := [.int (0 : Int32), .ref 1076]) (ls0 := [.ref 1000, .int a1]) (pc' := 7) (t_virt rfl rfl rfl rfl rfl rfl) rfl rfl rfl rfl ?_
  refine zGo.mono H (zXi_mono ?_ ?_)
  · intro v2 w1 H
    refine g_s (pc' := 8) (st' := [.long (Int32.toInt64 v2), .int (0 : Int32), .ref 1076]) rfl ?_
    refine g_last (pc' := 9) rfl rfl rfl rfl rfl rfl ⟨by decide, by decide⟩ ?_
    refine g_s (pc' := 15) rfl ?_
    refine g_psh (pc' := 16) (v' := .int 0) rfl (congrArg Value.int kc_i0) ?_
    exact g_reti rfl rfl H
  · intro E w3 H
    obtain ⟨rfl, H⟩ := H
    refine ⟨(3, 13), [.ref 1000, .int a1, .ref 1076, zJ], rfl, zst1_of rfl (Or.inr rfl) rfl, ?_⟩
    show zGo (d + 1) m_L_stack 13 [.ref 1000, .int a1, .ref 1076, zJ] [] (yz w3) (zKi F)
    refine g_psh (pc' := 14) (v' := .int 1) rfl (congrArg Value.int kc_i1) ?_
    exact g_reti rfl rfl H
set_option maxHeartbeats 4000000 in
theorem B_L_start_0 {d : Nat} {w : zm} {F : Int32 → zm → Prop} 
    (H : zGo d m_X8_start 0 [.ref 1000] [] (yz w) (zXv (fun w1 => F (0 : Int32) w1) (fun E w2 => (E = 1 ∧ F (1 : Int32) w2)))) :
    zGo (d + 1) m_L_start 0 [.ref 1000, zJ] [] (yz w) (zKi F) := by
  refine g_s (pc' := 1) rfl ?_
  refine g_xcallv (a := m_X8_start) (as := [.ref 1000]) (rest := []) (ls0 := [.ref 1000]) (pc' := 4) (t_virt rfl rfl rfl rfl rfl rfl) rfl rfl rfl rfl ?_
  refine zGo.mono H (zXv_mono ?_ ?_)
  · intro w1 H
    refine g_s (pc' := 10) rfl ?_
    refine g_psh (pc' := 11) (v' := .int 0) rfl (congrArg Value.int kc_i0) ?_
    exact g_reti rfl rfl H
  · intro E w2 H
    obtain ⟨rfl, H⟩ := H
    refine ⟨(1, 8), [.ref 1000, zJ], rfl, zst1_of rfl (Or.inr rfl) rfl, ?_⟩
    show zGo (d + 1) m_L_start 8 [.ref 1000, zJ] [] (yz w2) (zKi F)
    refine g_psh (pc' := 9) (v' := .int 1) rfl (congrArg Value.int kc_i1) ?_
    exact g_reti rfl rfl H
set_option maxHeartbeats 4000000 in
theorem B_L_steps_0 {d : Nat} {w : zm} {F : Int32 → zm → Prop} (a1 : Int32)
    (H : zGo d m_X8_steps 0 [.ref 1000, .int a1] [] (yz w) (zXl (fun v2 w1 => F (0 : Int32) (yuB w1 1076 (Int32.toNatClampNeg (0 : Int32)) v2)) (fun E w3 => (E = 0 ∧ F (1 : Int32) w3)))) :
    zGo (d + 1) m_L_steps 0 [.ref 1000, .int a1, .ref 1076, zJ] [] (yz w) (zKi F) := by
  refine g_s (pc' := 1) rfl ?_
  refine g_psh (pc' := 2) (v' := .int 0) rfl (congrArg Value.int kc_i0) ?_
  refine g_s (pc' := 3) rfl ?_
  refine g_s (pc' := 4) rfl ?_
  refine g_xcalll (a := m_X8_steps) (as := [.ref 1000, .int a1]) (rest := [.int (0 : Int32), .ref 1076]) (ls0 := [.ref 1000, .int a1]) (pc' := 7) (t_virt rfl rfl rfl rfl rfl rfl) rfl rfl rfl rfl ?_
  refine zGo.mono H (zXl_mono ?_ ?_)
  · intro v2 w1 H
    refine g_last (pc' := 8) rfl rfl rfl rfl rfl rfl ⟨by decide, by decide⟩ ?_
    refine g_s (pc' := 14) rfl ?_
    refine g_psh (pc' := 15) (v' := .int 0) rfl (congrArg Value.int kc_i0) ?_
    exact g_reti rfl rfl H
  · intro E w3 H
    obtain ⟨rfl, H⟩ := H
    refine ⟨(3, 12), [.ref 1000, .int a1, .ref 1076, zJ], rfl, zst1_of rfl (Or.inr rfl) rfl, ?_⟩
    show zGo (d + 1) m_L_steps 12 [.ref 1000, .int a1, .ref 1076, zJ] [] (yz w3) (zKi F)
    refine g_psh (pc' := 13) (v' := .int 1) rfl (congrArg Value.int kc_i1) ?_
    exact g_reti rfl rfl H
set_option maxHeartbeats 4000000 in
theorem B_L_trace_0 {d : Nat} {w : zm} {F : Int32 → zm → Prop} (a1 : Int32) (a2 : Int32)
    (H : zGo d m_X8_trace 0 [.ref 1000, .int a1, .int a2, zJ] [] (yz w) (zXi (fun v2 w1 => F (0 : Int32) (yuB w1 1076 (Int32.toNatClampNeg (0 : Int32)) (Int32.toInt64 v2))) (fun E w3 => (E = 0 ∧ F (1 : Int32) w3)))) :
    zGo (d + 1) m_L_trace 0 [.ref 1000, .int a1, .int a2, .ref 1076, zJ] [] (yz w) (zKi F) := by
  refine g_s (pc' := 1) rfl ?_
  refine g_psh (pc' := 2) (v' := .int 0) rfl (congrArg Value.int kc_i0) ?_
  refine g_s (pc' := 3) rfl ?_
  refine g_s (pc' := 4) rfl ?_
  refine g_s (pc' := 5) rfl ?_
  refine g_xcalli (a := m_X8_trace) (as := [.ref 1000, .int a1, .int a2]) (rest := [.int (0 : Int32), .ref 1076]) (ls0 := [.ref 1000, .int a1, .int a2, zJ]) (pc' := 8) (t_virt rfl rfl rfl rfl rfl rfl) rfl rfl rfl rfl ?_
  refine zGo.mono H (zXi_mono ?_ ?_)
  · intro v2 w1 H
    refine g_s (pc' := 9) (st' := [.long (Int32.toInt64 v2), .int (0 : Int32), .ref 1076]) rfl ?_
    refine g_last (pc' := 10) rfl rfl rfl rfl rfl rfl ⟨by decide, by decide⟩ ?_
    refine g_s (pc' := 17) rfl ?_
    refine g_psh (pc' := 18) (v' := .int 0) rfl (congrArg Value.int kc_i0) ?_
    exact g_reti rfl rfl H
  · intro E w3 H
    obtain ⟨rfl, H⟩ := H
    refine ⟨(4, 15), [.ref 1000, .int a1, .int a2, .ref 1076, zJ], rfl, zst1_of rfl (Or.inr rfl) rfl, ?_⟩
    show zGo (d + 1) m_L_trace 15 [.ref 1000, .int a1, .int a2, .ref 1076, zJ] [] (yz w3) (zKi F)
    refine g_psh (pc' := 16) (v' := .int 1) rfl (congrArg Value.int kc_i1) ?_
    exact g_reti rfl rfl H
set_option maxHeartbeats 4000000 in
theorem B_L_traceAt_0 {d : Nat} {w : zm} {F : Int32 → zm → Prop} (a1 : Int32)
    (H : zGo d m_X8_traceAt 0 [.ref 1000, .int a1, zJ] [] (yz w) (zXi (fun v2 w1 => F (0 : Int32) (yuB w1 1076 (Int32.toNatClampNeg (0 : Int32)) (Int32.toInt64 v2))) (fun E w3 => (E = 0 ∧ F (1 : Int32) w3)))) :
    zGo (d + 1) m_L_traceAt 0 [.ref 1000, .int a1, .ref 1076, zJ] [] (yz w) (zKi F) := by
  refine g_s (pc' := 1) rfl ?_
  refine g_psh (pc' := 2) (v' := .int 0) rfl (congrArg Value.int kc_i0) ?_
  refine g_s (pc' := 3) rfl ?_
  refine g_s (pc' := 4) rfl ?_
  refine g_xcalli (a := m_X8_traceAt) (as := [.ref 1000, .int a1]) (rest := [.int (0 : Int32), .ref 1076]) (ls0 := [.ref 1000, .int a1, zJ]) (pc' := 7) (t_virt rfl rfl rfl rfl rfl rfl) rfl rfl rfl rfl ?_
  refine zGo.mono H (zXi_mono ?_ ?_)
  · intro v2 w1 H
    refine g_s (pc' := 8) (st' := [.long (Int32.toInt64 v2), .int (0 : Int32), .ref 1076]) rfl ?_
    refine g_last (pc' := 9) rfl rfl rfl rfl rfl rfl ⟨by decide, by decide⟩ ?_
    refine g_s (pc' := 15) rfl ?_
    refine g_psh (pc' := 16) (v' := .int 0) rfl (congrArg Value.int kc_i0) ?_
    exact g_reti rfl rfl H
  · intro E w3 H
    obtain ⟨rfl, H⟩ := H
    refine ⟨(3, 13), [.ref 1000, .int a1, .ref 1076, zJ], rfl, zst1_of rfl (Or.inr rfl) rfl, ?_⟩
    show zGo (d + 1) m_L_traceAt 13 [.ref 1000, .int a1, .ref 1076, zJ] [] (yz w3) (zKi F)
    refine g_psh (pc' := 14) (v' := .int 1) rfl (congrArg Value.int kc_i1) ?_
    exact g_reti rfl rfl H
