/-! what is enough for a run from here, of each method: printed by gen_wp.py out of the table -/
set_option maxHeartbeats 4000000 in
theorem B_X1_follow_0 {d : Nat} {w : zm} {F : Int32 → zm → Prop} (p1 : Nat)
    (H : zGo (d + 1) m_X1_follow 2 [.ref 1007, .ref p1, .int (0 : Int32), zJ, zJ, zJ] [] (yz w) (zKi F)) :
    zGo (d + 1) m_X1_follow 0 [.ref 1007, .ref p1, zJ, zJ, zJ, zJ] [] (yz w) (zKi F) := by
  refine g_psh (pc' := 1) (v' := .int 0) rfl (congrArg Value.int kc_i0) ?_
  refine g_ist (k := 2) (pc' := 2) (ls' := [.ref 1007, .ref p1, .int (0 : Int32), zJ, zJ, zJ]) rfl rfl rfl rfl (zst1_of rfl (Or.inr rfl) rfl) ?_
  exact H
set_option maxHeartbeats 4000000 in
theorem B_X1_follow_2 {d : Nat} {w : zm} {F : Int32 → zm → Prop} (p1 : Nat) (a2 : Int32) (ua3 : Value) (ua4 : Value) (ua5 : Value) (hua3 : zisL ua3 = false) (hua4 : zisL ua4 = false) (hua5 : zisL ua5 = false)
    (H : (yP w p1) ∧ ((a2 < (yI w p1 4) → zGo d m_X0_op 0 [.ref 1003, .int (yI w 1007 6)] [] (yz w) (zKi fun v3 w2 => ((v3 = (22 : Int32) → zGo (d + 1) m_X1_follow 39 [.ref 1007, .ref p1, .int a2, .int v3, ua4, ua5] [.int (1 : Int32)] (yz w2) (zKi F)) ∧ (¬ v3 = (22 : Int32) → ((v3 = (23 : Int32) → zGo (d + 1) m_X1_follow 39 [.ref 1007, .ref p1, .int a2, .int v3, ua4, ua5] [.int (1 : Int32)] (yz w2) (zKi F)) ∧ (¬ v3 = (23 : Int32) → zGo (d + 1) m_X1_follow 39 [.ref 1007, .ref p1, .int a2, .int v3, ua4, ua5] [.int (0 : Int32)] (yz w2) (zKi F))))))) ∧ (¬ a2 < (yI w p1 4) → F (yI w p1 4) w))) :
    zGo (d + 1) m_X1_follow 2 [.ref 1007, .ref p1, .int a2, ua3, ua4, ua5] [] (yz w) (zKi F) := by
  refine g_s (pc' := 3) rfl ?_
  refine g_s (pc' := 4) rfl ?_
  obtain ⟨hs1, H⟩ := H
  refine g_getf (pc' := 7) (v := .int (yI w p1 4)) rfl rfl (yP_k hs1) rfl rfl ?_
  refine g_icge (pc' := 10) rfl rfl (fun hc => ?_) (fun hc => ?_)
  · replace H := H.1 hc
    refine g_s (pc' := 11) rfl ?_
    refine g_getf (pc' := 14) (v := .ref 1003) rfl rfl rfl rfl rfl ?_
    refine g_s (pc' := 15) rfl ?_
    refine g_getf (pc' := 18) (v := .int (yI w 1007 6)) rfl rfl rfl rfl rfl ?_
    refine g_calli (a := m_X0_op) (as := [.ref 1003, .int (yI w 1007 6)]) (rest := []) (ls0 := [.ref 1003, .int (yI w 1007 6)]) (pc' := 21) (t_virt rfl rfl rfl rfl rfl rfl) rfl rfl rfl ?_
    refine zGo.mono H (zKi_mono ?_)
    intro v3 w2 H
    refine g_ist (k := 3) (pc' := 22) (ls' := [.ref 1007, .ref p1, .int a2, .int v3, ua4, ua5]) rfl rfl rfl rfl (zst1_of rfl (Or.inr rfl) rfl) ?_
    refine g_s (pc' := 23) rfl ?_
    refine g_psh (pc' := 25) (v' := .int 22) rfl (congrArg Value.int kc_b22) ?_
    refine g_iceq (pc' := 28) rfl rfl (fun hc => ?_) (fun hc => ?_)
    · replace H := H.1 hc
      refine g_psh (pc' := 35) (v' := .int 1) rfl (congrArg Value.int kc_i1) ?_
      refine g_s (pc' := 39) rfl ?_
      exact H
    · replace H := H.2 hc
      refine g_s (pc' := 29) rfl ?_
      refine g_psh (pc' := 31) (v' := .int 23) rfl (congrArg Value.int kc_b23) ?_
      refine g_icne (pc' := 34) rfl rfl (fun hc => ?_) (fun hc => ?_)
      · replace H := H.1 hc
        refine g_psh (pc' := 35) (v' := .int 1) rfl (congrArg Value.int kc_i1) ?_
        refine g_s (pc' := 39) rfl ?_
        exact H
      · replace H := H.2 hc
        refine g_psh (pc' := 39) (v' := .int 0) rfl (congrArg Value.int kc_i0) ?_
        exact H
  · replace H := H.2 hc
    refine g_s (pc' := 101) rfl ?_
    refine g_getf (pc' := 104) (v := .int (yI w p1 4)) rfl rfl (yP_k hs1) rfl rfl ?_
    exact g_reti rfl rfl H
set_option maxHeartbeats 4000000 in
theorem B_X1_follow_39 {d : Nat} {w : zm} {F : Int32 → zm → Prop} (p1 : Nat) (a2 : Int32) (a3 : Int32) (ua4 : Value) (ua5 : Value) (s0 : Int32) (hua4 : zisL ua4 = false) (hua5 : zisL ua5 = false)
    (H : ((s0 = 0 → zGo (d + 1) m_X1_follow 74 [.ref 1007, .ref p1, .int a2, .int a3, .int s0, ua5] [.int (0 : Int32)] (yz w) (zKi F)) ∧ (¬ s0 = 0 → zGo d m_X3_top 0 [.ref 1009] [] (yz w) (zKi fun v2 w1 => ((v2 = 0 → (yP w1 p1) ∧ zGo d m_X2_wasZero 0 [.ref p1, .int a2] [] (yz w1) (zKi fun v5 w4 => (((1 : Int32) = v5 → zGo (d + 1) m_X1_follow 74 [.ref 1007, .ref p1, .int a2, .int a3, .int s0, ua5] [.int (0 : Int32)] (yz w4) (zKi F)) ∧ (¬ (1 : Int32) = v5 → zGo (d + 1) m_X1_follow 74 [.ref 1007, .ref p1, .int a2, .int a3, .int s0, ua5] [.int (1 : Int32)] (yz w4) (zKi F))))) ∧ (¬ v2 = 0 → (yP w1 p1) ∧ zGo d m_X2_wasZero 0 [.ref p1, .int a2] [] (yz w1) (zKi fun v8 w7 => (((0 : Int32) = v8 → zGo (d + 1) m_X1_follow 74 [.ref 1007, .ref p1, .int a2, .int a3, .int s0, ua5] [.int (0 : Int32)] (yz w7) (zKi F)) ∧ (¬ (0 : Int32) = v8 → zGo (d + 1) m_X1_follow 74 [.ref 1007, .ref p1, .int a2, .int a3, .int s0, ua5] [.int (1 : Int32)] (yz w7) (zKi F)))))))))) :
    zGo (d + 1) m_X1_follow 39 [.ref 1007, .ref p1, .int a2, .int a3, ua4, ua5] [.int s0] (yz w) (zKi F) := by
  refine g_ist (k := 4) (pc' := 41) (ls' := [.ref 1007, .ref p1, .int a2, .int a3, .int s0, ua5]) rfl rfl rfl rfl (zst1_of rfl (Or.inr rfl) rfl) ?_
  refine g_s (pc' := 43) rfl ?_
  refine g_ifeq (pc' := 46) rfl rfl (fun hc => ?_) (fun hc => ?_)
  · replace H := H.1 hc
    refine g_psh (pc' := 74) (v' := .int 0) rfl (congrArg Value.int kc_i0) ?_
    exact H
  · replace H := H.2 hc
    refine g_s (pc' := 47) rfl ?_
    refine g_getf (pc' := 50) (v := .ref 1009) rfl rfl rfl rfl rfl ?_
    refine g_calli (a := m_X3_top) (as := [.ref 1009]) (rest := []) (ls0 := [.ref 1009]) (pc' := 53) (t_virt rfl rfl rfl rfl rfl rfl) rfl rfl rfl ?_
    refine zGo.mono H (zKi_mono ?_)
    intro v2 w1 H
    refine g_ifne (pc' := 56) rfl rfl (fun hc => ?_) (fun hc => ?_)
    · replace H := H.1 hc
      refine g_psh (pc' := 57) (v' := .int 1) rfl (congrArg Value.int kc_i1) ?_
      refine g_s (pc' := 61) rfl ?_
      refine g_s (pc' := 62) rfl ?_
      refine g_s (pc' := 63) rfl ?_
      obtain ⟨hs3, H⟩ := H
      refine g_calli (a := m_X2_wasZero) (as := [.ref p1, .int a2]) (rest := [.int (1 : Int32)]) (ls0 := [.ref p1, .int a2]) (pc' := 66) (t_virt rfl rfl rfl rfl rfl (yP_k hs3)) rfl rfl rfl ?_
      refine zGo.mono H (zKi_mono ?_)
      intro v5 w4 H
      refine g_iceq (pc' := 69) rfl rfl (fun hc => ?_) (fun hc => ?_)
      · replace H := H.1 hc
        refine g_psh (pc' := 74) (v' := .int 0) rfl (congrArg Value.int kc_i0) ?_
        exact H
      · replace H := H.2 hc
        refine g_psh (pc' := 70) (v' := .int 1) rfl (congrArg Value.int kc_i1) ?_
        refine g_s (pc' := 74) rfl ?_
        exact H
    · replace H := H.2 hc
      refine g_psh (pc' := 61) (v' := .int 0) rfl (congrArg Value.int kc_i0) ?_
      refine g_s (pc' := 62) rfl ?_
      refine g_s (pc' := 63) rfl ?_
      obtain ⟨hs6, H⟩ := H
      refine g_calli (a := m_X2_wasZero) (as := [.ref p1, .int a2]) (rest := [.int (0 : Int32)]) (ls0 := [.ref p1, .int a2]) (pc' := 66) (t_virt rfl rfl rfl rfl rfl (yP_k hs6)) rfl rfl rfl ?_
      refine zGo.mono H (zKi_mono ?_)
      intro v8 w7 H
      refine g_iceq (pc' := 69) rfl rfl (fun hc => ?_) (fun hc => ?_)
      · replace H := H.1 hc
        refine g_psh (pc' := 74) (v' := .int 0) rfl (congrArg Value.int kc_i0) ?_
        exact H
      · replace H := H.2 hc
        refine g_psh (pc' := 70) (v' := .int 1) rfl (congrArg Value.int kc_i1) ?_
        refine g_s (pc' := 74) rfl ?_
        exact H
set_option maxHeartbeats 4000000 in
theorem B_X1_follow_74 {d : Nat} {w : zm} {F : Int32 → zm → Prop} (p1 : Nat) (a2 : Int32) (a3 : Int32) (a4 : Int32) (ua5 : Value) (s0 : Int32) (hua5 : zisL ua5 = false)
    (H : ((s0 = 0 → zGo d m_X1_wouldBreak 0 [.ref 1007, zJ] [] (yz w) (zKi fun v2 w1 => ((v2 = 0 → zGo d m_X1_step 0 [.ref 1007, zJ, zJ] [] (yz w1) (zKv fun w3 => zGo (d + 1) m_X1_follow 2 [.ref 1007, .ref p1, .int (a2 + 1), .int a3, .int a4, .int s0] [] (yz w3) (zKi F))) ∧ (¬ v2 = 0 → F a2 w1)))) ∧ (¬ s0 = 0 → F a2 w))) :
    zGo (d + 1) m_X1_follow 74 [.ref 1007, .ref p1, .int a2, .int a3, .int a4, ua5] [.int s0] (yz w) (zKi F) := by
  refine g_ist (k := 5) (pc' := 76) (ls' := [.ref 1007, .ref p1, .int a2, .int a3, .int a4, .int s0]) rfl rfl rfl rfl (zst1_of rfl (Or.inr rfl) rfl) ?_
  refine g_s (pc' := 78) rfl ?_
  refine g_ifne (pc' := 81) rfl rfl (fun hc => ?_) (fun hc => ?_)
  · replace H := H.1 hc
    refine g_s (pc' := 82) rfl ?_
    refine g_calli (a := m_X1_wouldBreak) (as := [.ref 1007]) (rest := []) (ls0 := [.ref 1007, zJ]) (pc' := 85) (t_virt rfl rfl rfl rfl rfl rfl) rfl rfl rfl ?_
    refine zGo.mono H (zKi_mono ?_)
    intro v2 w1 H
    refine g_ifeq (pc' := 88) rfl rfl (fun hc => ?_) (fun hc => ?_)
    · replace H := H.1 hc
      refine g_s (pc' := 91) rfl ?_
      refine g_callv (a := m_X1_step) (as := [.ref 1007]) (rest := []) (ls0 := [.ref 1007, zJ, zJ]) (pc' := 94) (t_virt rfl rfl rfl rfl rfl rfl) rfl rfl rfl ?_
      refine zGo.mono H (zKv_mono ?_)
      intro w3 H
      refine g_inc (pc' := 97) (ls' := [.ref 1007, .ref p1, .int (a2 + 1), .int a3, .int a4, .int s0]) rfl rfl rfl kc_i1 (zst1_of rfl (Or.inr rfl) rfl) ?_
      refine g_s (pc' := 2) rfl ?_
      exact H
    · replace H := H.2 hc
      refine g_s (pc' := 89) rfl ?_
      exact g_reti rfl rfl H
  · replace H := H.2 hc
    refine g_s (pc' := 89) rfl ?_
    exact g_reti rfl rfl H
set_option maxHeartbeats 4000000 in
theorem B_X1_move_0 {d : Nat} {w : zm} {F : zm → Prop} (a1 : Int32) (a2 : Int32)
    (H : (((a1.toInt < 1 ∨ 26 < a1.toInt ∨ a1.toInt = 4 ∨ a1.toInt = 5 ∨ a1.toInt = 6 ∨ a1.toInt = 7 ∨ a1.toInt = 8 ∨ a1.toInt = 9 ∨ a1.toInt = 10 ∨ a1.toInt = 11 ∨ a1.toInt = 12 ∨ a1.toInt = 13 ∨ a1.toInt = 14 ∨ a1.toInt = 15 ∨ a1.toInt = 21 ∨ a1.toInt = 22 ∨ a1.toInt = 23) → F w) ∧ ((a1.toInt = 1) → zGo d m_X3_push 0 [.ref 1009, .int a2] [] (yz w) (zKv fun w1 => F w1)) ∧ ((a1.toInt = 2) → ((a2 < 0 → zGo d m_X3_push 0 [.ref 1009, .int (0 : Int32)] [] (yz w) (zKv fun w2 => F w2)) ∧ (¬ a2 < 0 → ((a2 < (16 : Int32) → (zin a2 16) ∧ zGo d m_X3_push 0 [.ref 1009, .int (yA w 1008 (Int32.toNatClampNeg a2))] [] (yz w) (zKv fun w4 => F w4)) ∧ (¬ a2 < (16 : Int32) → zGo d m_X3_push 0 [.ref 1009, .int (0 : Int32)] [] (yz w) (zKv fun w5 => F w5)))))) ∧ ((a1.toInt = 3) → zGo d m_X3_pop 0 [.ref 1009] [] (yz w) (zKi fun v7 w6 => zGo d m_X1_store 0 [.ref 1007, .int a2, .int v7] [] (yz w6) (zKv fun w8 => F w8))) ∧ ((a1.toInt = 16 ∨ a1.toInt = 17) → zGo d m_X3_pop 0 [.ref 1009] [] (yz w) (zKi fun v10 w9 => zGo d m_X8_result 0 [.int a1, .int v10, .int (0 : Int32)] [] (yz w9) (zKi fun v12 w11 => zGo d m_X3_push 0 [.ref 1009, .int v12] [] (yz w11) (zKv fun w13 => F w13)))) ∧ ((a1.toInt = 18) → zGo d m_X3_top 0 [.ref 1009] [] (yz w) (zKi fun v15 w14 => zGo d m_X3_push 0 [.ref 1009, .int v15] [] (yz w14) (zKv fun w16 => F w16))) ∧ ((a1.toInt = 19) → zGo d m_X3_swap 0 [.ref 1009, zJ] [] (yz w) (zKv fun w17 => F w17)) ∧ ((a1.toInt = 20) → zGo d m_X3_pop 0 [.ref 1009] [] (yz w) (zKi fun v19 w18 => F w18)) ∧ ((a1.toInt = 24) → zGo d m_X3_pop 0 [.ref 1009] [] (yz w) (zKi fun v21 w20 => zGo d m_X1_putOut 0 [.ref 1007, .int v21, zJ] [] (yz w20) (zKv fun w22 => F w22))) ∧ ((a1.toInt = 25) → zGo d m_X3_pop 0 [.ref 1009] [] (yz w) (zKi fun v24 w23 => (zin (v24 &&& (31 : Int32)) 32) ∧ zGo d m_X3_push 0 [.ref 1009, .int (yA w23 1011 (Int32.toNatClampNeg (v24 &&& (31 : Int32))))] [] (yz w23) (zKv fun w26 => F w26))) ∧ ((a1.toInt = 26) → zGo d m_X3_pop 0 [.ref 1009] [] (yz w) (zKi fun v28 w27 => zGo d m_X3_pop 0 [.ref 1009] [] (yz w27) (zKi fun v30 w29 => (zin (v30 &&& (31 : Int32)) 32) ∧ F (yuA w29 1011 (Int32.toNatClampNeg (v30 &&& (31 : Int32))) v28)))))) :
    zGo (d + 1) m_X1_move 0 [.ref 1007, .int a1, .int a2, zJ] [] (yz w) (zKv F) := by
  refine g_s (pc' := 1) rfl ?_
  refine g_tsw rfl (fun hx => ?_) (fun j hx hy => ?_)
  · replace H := H.1 (by omega)
    show zGo (d + 1) m_X1_move 302 [.ref 1007, .int a1, .int a2, zJ] [] (yz w) (zKv F)
    exact g_retv rfl rfl H
  · have hj : j < 26 := by omega
    match j, hj, hx with
    | 0, _, hx =>
      refine ⟨119, rfl, ?_⟩
      replace H := H.2.1 (by omega)
      show zGo (d + 1) m_X1_move 120 [.ref 1007, .int a1, .int a2, zJ] [] (yz w) (zKv F)
      refine g_s (pc' := 121) rfl ?_
      refine g_getf (pc' := 124) (v := .ref 1009) rfl rfl rfl rfl rfl ?_
      refine g_s (pc' := 125) rfl ?_
      refine g_callv (a := m_X3_push) (as := [.ref 1009, .int a2]) (rest := []) (ls0 := [.ref 1009, .int a2]) (pc' := 128) (t_virt rfl rfl rfl rfl rfl rfl) rfl rfl rfl ?_
      refine zGo.mono H (zKv_mono ?_)
      intro w1 H
      refine g_s (pc' := 302) rfl ?_
      exact g_retv rfl rfl H
    | 1, _, hx =>
      refine ⟨130, rfl, ?_⟩
      replace H := H.2.2.1 (by omega)
      show zGo (d + 1) m_X1_move 131 [.ref 1007, .int a1, .int a2, zJ] [] (yz w) (zKv F)
      refine g_s (pc' := 132) rfl ?_
      refine g_getf (pc' := 135) (v := .ref 1009) rfl rfl rfl rfl rfl ?_
      refine g_s (pc' := 136) rfl ?_
      refine g_iflt (pc' := 139) rfl rfl (fun hc => ?_) (fun hc => ?_)
      · replace H := H.1 hc
        refine g_psh (pc' := 155) (v' := .int 0) rfl (congrArg Value.int kc_i0) ?_
        refine g_callv (a := m_X3_push) (as := [.ref 1009, .int (0 : Int32)]) (rest := []) (ls0 := [.ref 1009, .int (0 : Int32)]) (pc' := 158) (t_virt rfl rfl rfl rfl rfl rfl) rfl rfl rfl ?_
        refine zGo.mono H (zKv_mono ?_)
        intro w2 H
        refine g_s (pc' := 302) rfl ?_
        exact g_retv rfl rfl H
      · replace H := H.2 hc
        refine g_s (pc' := 140) rfl ?_
        refine g_psh (pc' := 142) (v' := .int 16) rfl (congrArg Value.int kc_b16) ?_
        refine g_icge (pc' := 145) rfl rfl (fun hc => ?_) (fun hc => ?_)
        · replace H := H.1 hc
          refine g_s (pc' := 146) rfl ?_
          refine g_getf (pc' := 149) (v := .ref 1008) rfl rfl rfl rfl rfl ?_
          refine g_s (pc' := 150) rfl ?_
          obtain ⟨hi3, H⟩ := H
          refine g_iald (pc' := 151) rfl rfl rfl rfl rfl (Or.inl rfl) hi3 ?_
          refine g_s (pc' := 155) rfl ?_
          refine g_callv (a := m_X3_push) (as := [.ref 1009, .int (yA w 1008 (Int32.toNatClampNeg a2))]) (rest := []) (ls0 := [.ref 1009, .int (yA w 1008 (Int32.toNatClampNeg a2))]) (pc' := 158) (t_virt rfl rfl rfl rfl rfl rfl) rfl rfl rfl ?_
          refine zGo.mono H (zKv_mono ?_)
          intro w4 H
          refine g_s (pc' := 302) rfl ?_
          exact g_retv rfl rfl H
        · replace H := H.2 hc
          refine g_psh (pc' := 155) (v' := .int 0) rfl (congrArg Value.int kc_i0) ?_
          refine g_callv (a := m_X3_push) (as := [.ref 1009, .int (0 : Int32)]) (rest := []) (ls0 := [.ref 1009, .int (0 : Int32)]) (pc' := 158) (t_virt rfl rfl rfl rfl rfl rfl) rfl rfl rfl ?_
          refine zGo.mono H (zKv_mono ?_)
          intro w5 H
          refine g_s (pc' := 302) rfl ?_
          exact g_retv rfl rfl H
    | 2, _, hx =>
      refine ⟨160, rfl, ?_⟩
      replace H := H.2.2.2.1 (by omega)
      show zGo (d + 1) m_X1_move 161 [.ref 1007, .int a1, .int a2, zJ] [] (yz w) (zKv F)
      refine g_s (pc' := 162) rfl ?_
      refine g_s (pc' := 163) rfl ?_
      refine g_s (pc' := 164) rfl ?_
      refine g_getf (pc' := 167) (v := .ref 1009) rfl rfl rfl rfl rfl ?_
      refine g_calli (a := m_X3_pop) (as := [.ref 1009]) (rest := [.int a2, .ref 1007]) (ls0 := [.ref 1009]) (pc' := 170) (t_virt rfl rfl rfl rfl rfl rfl) rfl rfl rfl ?_
      refine zGo.mono H (zKi_mono ?_)
      intro v7 w6 H
      refine g_callv (a := m_X1_store) (as := [.ref 1007, .int a2, .int v7]) (rest := []) (ls0 := [.ref 1007, .int a2, .int v7]) (pc' := 173) (t_virt rfl rfl rfl rfl rfl rfl) rfl rfl rfl ?_
      refine zGo.mono H (zKv_mono ?_)
      intro w8 H
      refine g_s (pc' := 302) rfl ?_
      exact g_retv rfl rfl H
    | 3, _, hx =>
      refine ⟨301, rfl, ?_⟩
      replace H := H.1 (by omega)
      show zGo (d + 1) m_X1_move 302 [.ref 1007, .int a1, .int a2, zJ] [] (yz w) (zKv F)
      exact g_retv rfl rfl H
    | 4, _, hx =>
      refine ⟨301, rfl, ?_⟩
      replace H := H.1 (by omega)
      show zGo (d + 1) m_X1_move 302 [.ref 1007, .int a1, .int a2, zJ] [] (yz w) (zKv F)
      exact g_retv rfl rfl H
    | 5, _, hx =>
      refine ⟨301, rfl, ?_⟩
      replace H := H.1 (by omega)
      show zGo (d + 1) m_X1_move 302 [.ref 1007, .int a1, .int a2, zJ] [] (yz w) (zKv F)
      exact g_retv rfl rfl H
    | 6, _, hx =>
      refine ⟨301, rfl, ?_⟩
      replace H := H.1 (by omega)
      show zGo (d + 1) m_X1_move 302 [.ref 1007, .int a1, .int a2, zJ] [] (yz w) (zKv F)
      exact g_retv rfl rfl H
    | 7, _, hx =>
      refine ⟨301, rfl, ?_⟩
      replace H := H.1 (by omega)
      show zGo (d + 1) m_X1_move 302 [.ref 1007, .int a1, .int a2, zJ] [] (yz w) (zKv F)
      exact g_retv rfl rfl H
    | 8, _, hx =>
      refine ⟨301, rfl, ?_⟩
      replace H := H.1 (by omega)
      show zGo (d + 1) m_X1_move 302 [.ref 1007, .int a1, .int a2, zJ] [] (yz w) (zKv F)
      exact g_retv rfl rfl H
    | 9, _, hx =>
      refine ⟨301, rfl, ?_⟩
      replace H := H.1 (by omega)
      show zGo (d + 1) m_X1_move 302 [.ref 1007, .int a1, .int a2, zJ] [] (yz w) (zKv F)
      exact g_retv rfl rfl H
    | 10, _, hx =>
      refine ⟨301, rfl, ?_⟩
      replace H := H.1 (by omega)
      show zGo (d + 1) m_X1_move 302 [.ref 1007, .int a1, .int a2, zJ] [] (yz w) (zKv F)
      exact g_retv rfl rfl H
    | 11, _, hx =>
      refine ⟨301, rfl, ?_⟩
      replace H := H.1 (by omega)
      show zGo (d + 1) m_X1_move 302 [.ref 1007, .int a1, .int a2, zJ] [] (yz w) (zKv F)
      exact g_retv rfl rfl H
    | 12, _, hx =>
      refine ⟨301, rfl, ?_⟩
      replace H := H.1 (by omega)
      show zGo (d + 1) m_X1_move 302 [.ref 1007, .int a1, .int a2, zJ] [] (yz w) (zKv F)
      exact g_retv rfl rfl H
    | 13, _, hx =>
      refine ⟨301, rfl, ?_⟩
      replace H := H.1 (by omega)
      show zGo (d + 1) m_X1_move 302 [.ref 1007, .int a1, .int a2, zJ] [] (yz w) (zKv F)
      exact g_retv rfl rfl H
    | 14, _, hx =>
      refine ⟨301, rfl, ?_⟩
      replace H := H.1 (by omega)
      show zGo (d + 1) m_X1_move 302 [.ref 1007, .int a1, .int a2, zJ] [] (yz w) (zKv F)
      exact g_retv rfl rfl H
    | 15, _, hx =>
      refine ⟨175, rfl, ?_⟩
      replace H := H.2.2.2.2.1 (by omega)
      show zGo (d + 1) m_X1_move 176 [.ref 1007, .int a1, .int a2, zJ] [] (yz w) (zKv F)
      refine g_s (pc' := 177) rfl ?_
      refine g_getf (pc' := 180) (v := .ref 1009) rfl rfl rfl rfl rfl ?_
      refine g_s (pc' := 181) rfl ?_
      refine g_s (pc' := 182) rfl ?_
      refine g_getf (pc' := 185) (v := .ref 1009) rfl rfl rfl rfl rfl ?_
      refine g_calli (a := m_X3_pop) (as := [.ref 1009]) (rest := [.int a1, .ref 1009]) (ls0 := [.ref 1009]) (pc' := 188) (t_virt rfl rfl rfl rfl rfl rfl) rfl rfl rfl ?_
      refine zGo.mono H (zKi_mono ?_)
      intro v10 w9 H
      refine g_psh (pc' := 189) (v' := .int 0) rfl (congrArg Value.int kc_i0) ?_
      refine g_calli (a := m_X8_result) (as := [.int a1, .int v10, .int (0 : Int32)]) (rest := [.ref 1009]) (ls0 := [.int a1, .int v10, .int (0 : Int32)]) (pc' := 192) (t_stat rfl (Or.inr rfl) rfl rfl rfl rfl) rfl rfl rfl ?_
      refine zGo.mono H (zKi_mono ?_)
      intro v12 w11 H
      refine g_callv (a := m_X3_push) (as := [.ref 1009, .int v12]) (rest := []) (ls0 := [.ref 1009, .int v12]) (pc' := 195) (t_virt rfl rfl rfl rfl rfl rfl) rfl rfl rfl ?_
      refine zGo.mono H (zKv_mono ?_)
      intro w13 H
      refine g_s (pc' := 302) rfl ?_
      exact g_retv rfl rfl H
    | 16, _, hx =>
      refine ⟨175, rfl, ?_⟩
      replace H := H.2.2.2.2.1 (by omega)
      show zGo (d + 1) m_X1_move 176 [.ref 1007, .int a1, .int a2, zJ] [] (yz w) (zKv F)
      refine g_s (pc' := 177) rfl ?_
      refine g_getf (pc' := 180) (v := .ref 1009) rfl rfl rfl rfl rfl ?_
      refine g_s (pc' := 181) rfl ?_
      refine g_s (pc' := 182) rfl ?_
      refine g_getf (pc' := 185) (v := .ref 1009) rfl rfl rfl rfl rfl ?_
      refine g_calli (a := m_X3_pop) (as := [.ref 1009]) (rest := [.int a1, .ref 1009]) (ls0 := [.ref 1009]) (pc' := 188) (t_virt rfl rfl rfl rfl rfl rfl) rfl rfl rfl ?_
      refine zGo.mono H (zKi_mono ?_)
      intro v10 w9 H
      refine g_psh (pc' := 189) (v' := .int 0) rfl (congrArg Value.int kc_i0) ?_
      refine g_calli (a := m_X8_result) (as := [.int a1, .int v10, .int (0 : Int32)]) (rest := [.ref 1009]) (ls0 := [.int a1, .int v10, .int (0 : Int32)]) (pc' := 192) (t_stat rfl (Or.inr rfl) rfl rfl rfl rfl) rfl rfl rfl ?_
      refine zGo.mono H (zKi_mono ?_)
      intro v12 w11 H
      refine g_callv (a := m_X3_push) (as := [.ref 1009, .int v12]) (rest := []) (ls0 := [.ref 1009, .int v12]) (pc' := 195) (t_virt rfl rfl rfl rfl rfl rfl) rfl rfl rfl ?_
      refine zGo.mono H (zKv_mono ?_)
      intro w13 H
      refine g_s (pc' := 302) rfl ?_
      exact g_retv rfl rfl H
    | 17, _, hx =>
      refine ⟨197, rfl, ?_⟩
      replace H := H.2.2.2.2.2.1 (by omega)
      show zGo (d + 1) m_X1_move 198 [.ref 1007, .int a1, .int a2, zJ] [] (yz w) (zKv F)
      refine g_s (pc' := 199) rfl ?_
      refine g_getf (pc' := 202) (v := .ref 1009) rfl rfl rfl rfl rfl ?_
      refine g_s (pc' := 203) rfl ?_
      refine g_getf (pc' := 206) (v := .ref 1009) rfl rfl rfl rfl rfl ?_
      refine g_calli (a := m_X3_top) (as := [.ref 1009]) (rest := [.ref 1009]) (ls0 := [.ref 1009]) (pc' := 209) (t_virt rfl rfl rfl rfl rfl rfl) rfl rfl rfl ?_
      refine zGo.mono H (zKi_mono ?_)
      intro v15 w14 H
      refine g_callv (a := m_X3_push) (as := [.ref 1009, .int v15]) (rest := []) (ls0 := [.ref 1009, .int v15]) (pc' := 212) (t_virt rfl rfl rfl rfl rfl rfl) rfl rfl rfl ?_
      refine zGo.mono H (zKv_mono ?_)
      intro w16 H
      refine g_s (pc' := 302) rfl ?_
      exact g_retv rfl rfl H
    | 18, _, hx =>
      refine ⟨214, rfl, ?_⟩
      replace H := H.2.2.2.2.2.2.1 (by omega)
      show zGo (d + 1) m_X1_move 215 [.ref 1007, .int a1, .int a2, zJ] [] (yz w) (zKv F)
      refine g_s (pc' := 216) rfl ?_
      refine g_getf (pc' := 219) (v := .ref 1009) rfl rfl rfl rfl rfl ?_
      refine g_callv (a := m_X3_swap) (as := [.ref 1009]) (rest := []) (ls0 := [.ref 1009, zJ]) (pc' := 222) (t_virt rfl rfl rfl rfl rfl rfl) rfl rfl rfl ?_
      refine zGo.mono H (zKv_mono ?_)
      intro w17 H
      refine g_s (pc' := 302) rfl ?_
      exact g_retv rfl rfl H
    | 19, _, hx =>
      refine ⟨224, rfl, ?_⟩
      replace H := H.2.2.2.2.2.2.2.1 (by omega)
      show zGo (d + 1) m_X1_move 225 [.ref 1007, .int a1, .int a2, zJ] [] (yz w) (zKv F)
      refine g_s (pc' := 226) rfl ?_
      refine g_getf (pc' := 229) (v := .ref 1009) rfl rfl rfl rfl rfl ?_
      refine g_calli (a := m_X3_pop) (as := [.ref 1009]) (rest := []) (ls0 := [.ref 1009]) (pc' := 232) (t_virt rfl rfl rfl rfl rfl rfl) rfl rfl rfl ?_
      refine zGo.mono H (zKi_mono ?_)
      intro v19 w18 H
      refine g_s (pc' := 233) rfl ?_
      refine g_s (pc' := 302) rfl ?_
      exact g_retv rfl rfl H
    | 20, _, hx =>
      refine ⟨301, rfl, ?_⟩
      replace H := H.1 (by omega)
      show zGo (d + 1) m_X1_move 302 [.ref 1007, .int a1, .int a2, zJ] [] (yz w) (zKv F)
      exact g_retv rfl rfl H
    | 21, _, hx =>
      refine ⟨301, rfl, ?_⟩
      replace H := H.1 (by omega)
      show zGo (d + 1) m_X1_move 302 [.ref 1007, .int a1, .int a2, zJ] [] (yz w) (zKv F)
      exact g_retv rfl rfl H
    | 22, _, hx =>
      refine ⟨301, rfl, ?_⟩
      replace H := H.1 (by omega)
      show zGo (d + 1) m_X1_move 302 [.ref 1007, .int a1, .int a2, zJ] [] (yz w) (zKv F)
      exact g_retv rfl rfl H
    | 23, _, hx =>
      refine ⟨235, rfl, ?_⟩
      replace H := H.2.2.2.2.2.2.2.2.1 (by omega)
      show zGo (d + 1) m_X1_move 236 [.ref 1007, .int a1, .int a2, zJ] [] (yz w) (zKv F)
      refine g_s (pc' := 237) rfl ?_
      refine g_s (pc' := 238) rfl ?_
      refine g_getf (pc' := 241) (v := .ref 1009) rfl rfl rfl rfl rfl ?_
      refine g_calli (a := m_X3_pop) (as := [.ref 1009]) (rest := [.ref 1007]) (ls0 := [.ref 1009]) (pc' := 244) (t_virt rfl rfl rfl rfl rfl rfl) rfl rfl rfl ?_
      refine zGo.mono H (zKi_mono ?_)
      intro v21 w20 H
      refine g_callv (a := m_X1_putOut) (as := [.ref 1007, .int v21]) (rest := []) (ls0 := [.ref 1007, .int v21, zJ]) (pc' := 247) (t_virt rfl rfl rfl rfl rfl rfl) rfl rfl rfl ?_
      refine zGo.mono H (zKv_mono ?_)
      intro w22 H
      refine g_s (pc' := 302) rfl ?_
      exact g_retv rfl rfl H
    | 24, _, hx =>
      refine ⟨249, rfl, ?_⟩
      replace H := H.2.2.2.2.2.2.2.2.2.1 (by omega)
      show zGo (d + 1) m_X1_move 250 [.ref 1007, .int a1, .int a2, zJ] [] (yz w) (zKv F)
      refine g_s (pc' := 251) rfl ?_
      refine g_getf (pc' := 254) (v := .ref 1009) rfl rfl rfl rfl rfl ?_
      refine g_s (pc' := 255) rfl ?_
      refine g_getf (pc' := 258) (v := .ref 1011) rfl rfl rfl rfl rfl ?_
      refine g_s (pc' := 259) rfl ?_
      refine g_getf (pc' := 262) (v := .ref 1009) rfl rfl rfl rfl rfl ?_
      refine g_calli (a := m_X3_pop) (as := [.ref 1009]) (rest := [.ref 1011, .ref 1009]) (ls0 := [.ref 1009]) (pc' := 265) (t_virt rfl rfl rfl rfl rfl rfl) rfl rfl rfl ?_
      refine zGo.mono H (zKi_mono ?_)
      intro v24 w23 H
      refine g_psh (pc' := 267) (v' := .int 31) rfl (congrArg Value.int kc_b31) ?_
      refine g_s (pc' := 268) (st' := [.int (v24 &&& (31 : Int32)), .ref 1011, .ref 1009]) rfl ?_
      obtain ⟨hi25, H⟩ := H
      refine g_iald (pc' := 269) rfl rfl rfl rfl rfl (Or.inl rfl) hi25 ?_
      refine g_callv (a := m_X3_push) (as := [.ref 1009, .int (yA w23 1011 (Int32.toNatClampNeg (v24 &&& (31 : Int32))))]) (rest := []) (ls0 := [.ref 1009, .int (yA w23 1011 (Int32.toNatClampNeg (v24 &&& (31 : Int32))))]) (pc' := 272) (t_virt rfl rfl rfl rfl rfl rfl) rfl rfl rfl ?_
      refine zGo.mono H (zKv_mono ?_)
      intro w26 H
      refine g_s (pc' := 302) rfl ?_
      exact g_retv rfl rfl H
    | 25, _, hx =>
      refine ⟨274, rfl, ?_⟩
      replace H := H.2.2.2.2.2.2.2.2.2.2 (by omega)
      show zGo (d + 1) m_X1_move 275 [.ref 1007, .int a1, .int a2, zJ] [] (yz w) (zKv F)
      refine g_s (pc' := 276) rfl ?_
      refine g_getf (pc' := 279) (v := .ref 1009) rfl rfl rfl rfl rfl ?_
      refine g_calli (a := m_X3_pop) (as := [.ref 1009]) (rest := []) (ls0 := [.ref 1009]) (pc' := 282) (t_virt rfl rfl rfl rfl rfl rfl) rfl rfl rfl ?_
      refine zGo.mono H (zKi_mono ?_)
      intro v28 w27 H
      refine g_ist (k := 3) (pc' := 283) (ls' := [.ref 1007, .int a1, .int a2, .int v28]) rfl rfl rfl rfl (zst1_of rfl (Or.inr rfl) rfl) ?_
      refine g_s (pc' := 284) rfl ?_
      refine g_getf (pc' := 287) (v := .ref 1011) rfl rfl rfl rfl rfl ?_
      refine g_s (pc' := 288) rfl ?_
      refine g_getf (pc' := 291) (v := .ref 1009) rfl rfl rfl rfl rfl ?_
      refine g_calli (a := m_X3_pop) (as := [.ref 1009]) (rest := [.ref 1011]) (ls0 := [.ref 1009]) (pc' := 294) (t_virt rfl rfl rfl rfl rfl rfl) rfl rfl rfl ?_
      refine zGo.mono H (zKi_mono ?_)
      intro v30 w29 H
      refine g_psh (pc' := 296) (v' := .int 31) rfl (congrArg Value.int kc_b31) ?_
      refine g_s (pc' := 297) (st' := [.int (v30 &&& (31 : Int32)), .ref 1011]) rfl ?_
      refine g_s (pc' := 298) rfl ?_
      obtain ⟨hi31, H⟩ := H
      refine g_iast (pc' := 299) rfl rfl rfl rfl rfl rfl hi31 ?_
      refine g_s (pc' := 302) rfl ?_
      exact g_retv rfl rfl H
    | _ + 26, hj, _ => exact absurd hj (by omega)
set_option maxHeartbeats 4000000 in
theorem B_X1_putOut_0 {d : Nat} {w : zm} {F : zm → Prop} (a1 : Int32)
    (H : ((((yI w 1007 7) - (yI w 1007 7) / (200 : Int32) * (200 : Int32)) < 0 → F (yuI w 1007 7 ((yI w 1007 7) + (1 : Int32)))) ∧ (¬ ((yI w 1007 7) - (yI w 1007 7) / (200 : Int32) * (200 : Int32)) < 0 → (zin ((yI w 1007 7) - (yI w 1007 7) / (200 : Int32) * (200 : Int32)) 200) ∧ F (yuI (yuA w 1012 (Int32.toNatClampNeg ((yI w 1007 7) - (yI w 1007 7) / (200 : Int32) * (200 : Int32))) a1) 1007 7 ((yI w 1007 7) + (1 : Int32)))))) :
    zGo d m_X1_putOut 0 [.ref 1007, .int a1, zJ] [] (yz w) (zKv F) := by
  refine g_s (pc' := 1) rfl ?_
  refine g_getf (pc' := 4) (v := .int (yI w 1007 7)) rfl rfl rfl rfl rfl ?_
  refine g_psh (pc' := 7) (v' := .int 200) rfl (congrArg Value.int kc_s200) ?_
  refine g_div (pc' := 8) (f := (fun x y => x - x / y * y)) rfl rfl rfl rfl (by decide) ?_
  show zGo d m_X1_putOut 8 [.ref 1007, .int a1, zJ] [.int ((yI w 1007 7) - (yI w 1007 7) / (200 : Int32) * (200 : Int32))] (yz w) (zKv F)
  refine g_ist (k := 2) (pc' := 9) (ls' := [.ref 1007, .int a1, .int ((yI w 1007 7) - (yI w 1007 7) / (200 : Int32) * (200 : Int32))]) rfl rfl rfl rfl (zst1_of rfl (Or.inr rfl) rfl) ?_
  refine g_s (pc' := 10) rfl ?_
  refine g_iflt (pc' := 13) rfl rfl (fun hc => ?_) (fun hc => ?_)
  · replace H := H.1 hc
    refine g_s (pc' := 21) rfl ?_
    refine g_s (pc' := 22) rfl ?_
    refine g_getf (pc' := 25) (v := .int (yI w 1007 7)) rfl rfl rfl rfl rfl ?_
    refine g_psh (pc' := 26) (v' := .int 1) rfl (congrArg Value.int kc_i1) ?_
    refine g_s (pc' := 27) (st' := [.int ((yI w 1007 7) + (1 : Int32)), .ref 1007]) rfl ?_
    refine g_putI (pc' := 30) rfl rfl rfl rfl rfl rfl (fun _ => rfl) ?_
    exact g_retv rfl rfl H
  · replace H := H.2 hc
    refine g_s (pc' := 14) rfl ?_
    refine g_getf (pc' := 17) (v := .ref 1012) rfl rfl rfl rfl rfl ?_
    refine g_s (pc' := 18) rfl ?_
    refine g_s (pc' := 19) rfl ?_
    obtain ⟨hi1, H⟩ := H
    refine g_iast (pc' := 20) rfl rfl rfl rfl rfl rfl hi1 ?_
    refine g_s (pc' := 21) rfl ?_
    refine g_s (pc' := 22) rfl ?_
    refine g_getf (pc' := 25) (v := .int (yI w 1007 7)) rfl rfl rfl rfl rfl ?_
    refine g_psh (pc' := 26) (v' := .int 1) rfl (congrArg Value.int kc_i1) ?_
    refine g_s (pc' := 27) (st' := [.int ((yI w 1007 7) + (1 : Int32)), .ref 1007]) rfl ?_
    refine g_putI (pc' := 30) rfl rfl rfl rfl rfl rfl (fun _ => rfl) ?_
    exact g_retv rfl rfl H
set_option maxHeartbeats 4000000 in
theorem B_X1_step_0 {d : Nat} {w : zm} {F : zm → Prop} 
    (H : zGo d m_X0_op 0 [.ref 1003, .int (yI w 1007 6)] [] (yz w) (zKi fun v2 w1 => ((v2 < (4 : Int32) → zGo (d + 1) m_X1_step 73 [.ref 1007, .int v2, zJ] [] (yz (yuL w1 1007 8 ((yL w1 1007 8) + (1 : Int64)))) (zKv F)) ∧ (¬ v2 < (4 : Int32) → (((15 : Int32) < v2 → zGo (d + 1) m_X1_step 73 [.ref 1007, .int v2, zJ] [] (yz (yuL w1 1007 8 ((yL w1 1007 8) + (1 : Int64)))) (zKv F)) ∧ (¬ (15 : Int32) < v2 → zGo d m_X3_pop 0 [.ref 1009] [] (yz (yuL w1 1007 8 ((yL w1 1007 8) + (1 : Int64)))) (zKi fun v4 w3 => zGo d m_X3_pop 0 [.ref 1009] [] (yz w3) (zKi fun v6 w5 => zGo d m_X8_result 0 [.int v2, .int v6, .int v4] [] (yz w5) (zKi fun v8 w7 => zGo d m_X3_push 0 [.ref 1009, .int v8] [] (yz w7) (zKv fun w9 => F (yuI w9 1007 6 ((yI w9 1007 6) + (1 : Int32))))))))))))) :
    zGo (d + 1) m_X1_step 0 [.ref 1007, zJ, zJ] [] (yz w) (zKv F) := by
  refine g_s (pc' := 1) rfl ?_
  refine g_getf (pc' := 4) (v := .ref 1003) rfl rfl rfl rfl rfl ?_
  refine g_s (pc' := 5) rfl ?_
  refine g_getf (pc' := 8) (v := .int (yI w 1007 6)) rfl rfl rfl rfl rfl ?_
  refine g_calli (a := m_X0_op) (as := [.ref 1003, .int (yI w 1007 6)]) (rest := []) (ls0 := [.ref 1003, .int (yI w 1007 6)]) (pc' := 11) (t_virt rfl rfl rfl rfl rfl rfl) rfl rfl rfl ?_
  refine zGo.mono H (zKi_mono ?_)
  intro v2 w1 H
  refine g_ist (k := 1) (pc' := 12) (ls' := [.ref 1007, .int v2, zJ]) rfl rfl rfl rfl (zst1_of rfl (Or.inr rfl) rfl) ?_
  refine g_s (pc' := 13) rfl ?_
  refine g_s (pc' := 14) rfl ?_
  refine g_getf (pc' := 17) (v := .long (yL w1 1007 8)) rfl rfl rfl rfl rfl ?_
  refine g_psh (pc' := 18) (v' := .long 1) rfl (congrArg Value.long kc_l1) ?_
  refine g_s (pc' := 19) (st' := [.long ((yL w1 1007 8) + (1 : Int64)), .ref 1007]) rfl ?_
  refine g_putL (pc' := 22) rfl rfl rfl rfl rfl rfl (fun _ => rfl) ?_
  refine g_s (pc' := 23) rfl ?_
  refine g_psh (pc' := 24) (v' := .int 4) rfl (congrArg Value.int kc_i4) ?_
  refine g_iclt (pc' := 27) rfl rfl (fun hc => ?_) (fun hc => ?_)
  · replace H := H.1 hc
    exact H
  · replace H := H.2 hc
    refine g_s (pc' := 28) rfl ?_
    refine g_psh (pc' := 30) (v' := .int 15) rfl (congrArg Value.int kc_b15) ?_
    refine g_icgt (pc' := 33) rfl rfl (fun hc => ?_) (fun hc => ?_)
    · replace H := H.1 hc
      exact H
    · replace H := H.2 hc
      refine g_s (pc' := 34) rfl ?_
      refine g_getf (pc' := 37) (v := .ref 1009) rfl rfl rfl rfl rfl ?_
      refine g_calli (a := m_X3_pop) (as := [.ref 1009]) (rest := []) (ls0 := [.ref 1009]) (pc' := 40) (t_virt rfl rfl rfl rfl rfl rfl) rfl rfl rfl ?_
      refine zGo.mono H (zKi_mono ?_)
      intro v4 w3 H
      refine g_ist (k := 2) (pc' := 41) (ls' := [.ref 1007, .int v2, .int v4]) rfl rfl rfl rfl (zst1_of rfl (Or.inr rfl) rfl) ?_
      refine g_s (pc' := 42) rfl ?_
      refine g_getf (pc' := 45) (v := .ref 1009) rfl rfl rfl rfl rfl ?_
      refine g_s (pc' := 46) rfl ?_
      refine g_s (pc' := 47) rfl ?_
      refine g_getf (pc' := 50) (v := .ref 1009) rfl rfl rfl rfl rfl ?_
      refine g_calli (a := m_X3_pop) (as := [.ref 1009]) (rest := [.int v2, .ref 1009]) (ls0 := [.ref 1009]) (pc' := 53) (t_virt rfl rfl rfl rfl rfl rfl) rfl rfl rfl ?_
      refine zGo.mono H (zKi_mono ?_)
      intro v6 w5 H
      refine g_s (pc' := 54) rfl ?_
      refine g_calli (a := m_X8_result) (as := [.int v2, .int v6, .int v4]) (rest := [.ref 1009]) (ls0 := [.int v2, .int v6, .int v4]) (pc' := 57) (t_stat rfl (Or.inr rfl) rfl rfl rfl rfl) rfl rfl rfl ?_
      refine zGo.mono H (zKi_mono ?_)
      intro v8 w7 H
      refine g_callv (a := m_X3_push) (as := [.ref 1009, .int v8]) (rest := []) (ls0 := [.ref 1009, .int v8]) (pc' := 60) (t_virt rfl rfl rfl rfl rfl rfl) rfl rfl rfl ?_
      refine zGo.mono H (zKv_mono ?_)
      intro w9 H
      refine g_s (pc' := 61) rfl ?_
      refine g_s (pc' := 62) rfl ?_
      refine g_getf (pc' := 65) (v := .int (yI w9 1007 6)) rfl rfl rfl rfl rfl ?_
      refine g_psh (pc' := 66) (v' := .int 1) rfl (congrArg Value.int kc_i1) ?_
      refine g_s (pc' := 67) (st' := [.int ((yI w9 1007 6) + (1 : Int32)), .ref 1007]) rfl ?_
      refine g_putI (pc' := 70) rfl rfl rfl rfl rfl rfl (fun _ => rfl) ?_
      refine g_s (pc' := 213) rfl ?_
      exact g_retv rfl rfl H
set_option maxHeartbeats 4000000 in
theorem B_X1_step_73 {d : Nat} {w : zm} {F : zm → Prop} (a1 : Int32)
    (H : ((a1 = (21 : Int32) → zGo d m_X0_argument 0 [.ref 1003, .int (yI w 1007 6)] [] (yz w) (zKi fun v2 w1 => F (yuI w1 1007 6 v2))) ∧ (¬ a1 = (21 : Int32) → ((a1 = (22 : Int32) → zGo d m_X3_pop 0 [.ref 1009] [] (yz w) (zKi fun v4 w3 => ((v4 = 0 → zGo (d + 1) m_X1_step 124 [.ref 1007, .int a1, zJ] [.int (1 : Int32)] (yz w3) (zKv F)) ∧ (¬ v4 = 0 → zGo (d + 1) m_X1_step 124 [.ref 1007, .int a1, zJ] [.int (0 : Int32)] (yz w3) (zKv F))))) ∧ (¬ a1 = (22 : Int32) → ((a1 = (23 : Int32) → zGo d m_X3_pop 0 [.ref 1009] [] (yz w) (zKi fun v6 w5 => ((v6 = 0 → zGo (d + 1) m_X1_step 124 [.ref 1007, .int a1, zJ] [.int (1 : Int32)] (yz w5) (zKv F)) ∧ (¬ v6 = 0 → zGo (d + 1) m_X1_step 124 [.ref 1007, .int a1, zJ] [.int (0 : Int32)] (yz w5) (zKv F))))) ∧ (¬ a1 = (23 : Int32) → ((a1 = 0 → F (yuI w 1007 5 (3 : Int32))) ∧ (¬ a1 = 0 → zGo d m_X0_argument 0 [.ref 1003, .int (yI w 1007 6)] [] (yz w) (zKi fun v8 w7 => zGo d m_X1_move 0 [.ref 1007, .int a1, .int v8, zJ] [] (yz w7) (zKv fun w9 => F (yuI w9 1007 6 ((yI w9 1007 6) + (1 : Int32)))))))))))))) :
    zGo (d + 1) m_X1_step 73 [.ref 1007, .int a1, zJ] [] (yz w) (zKv F) := by
  refine g_s (pc' := 74) rfl ?_
  refine g_psh (pc' := 76) (v' := .int 21) rfl (congrArg Value.int kc_b21) ?_
  refine g_icne (pc' := 79) rfl rfl (fun hc => ?_) (fun hc => ?_)
  · replace H := H.1 hc
    refine g_s (pc' := 80) rfl ?_
    refine g_s (pc' := 81) rfl ?_
    refine g_getf (pc' := 84) (v := .ref 1003) rfl rfl rfl rfl rfl ?_
    refine g_s (pc' := 85) rfl ?_
    refine g_getf (pc' := 88) (v := .int (yI w 1007 6)) rfl rfl rfl rfl rfl ?_
    refine g_calli (a := m_X0_argument) (as := [.ref 1003, .int (yI w 1007 6)]) (rest := [.ref 1007]) (ls0 := [.ref 1003, .int (yI w 1007 6)]) (pc' := 91) (t_virt rfl rfl rfl rfl rfl rfl) rfl rfl rfl ?_
    refine zGo.mono H (zKi_mono ?_)
    intro v2 w1 H
    refine g_putI (pc' := 94) rfl rfl rfl rfl rfl rfl (fun _ => rfl) ?_
    refine g_s (pc' := 213) rfl ?_
    exact g_retv rfl rfl H
  · replace H := H.2 hc
    refine g_s (pc' := 98) rfl ?_
    refine g_psh (pc' := 100) (v' := .int 22) rfl (congrArg Value.int kc_b22) ?_
    refine g_iceq (pc' := 103) rfl rfl (fun hc => ?_) (fun hc => ?_)
    · replace H := H.1 hc
      refine g_s (pc' := 110) rfl ?_
      refine g_getf (pc' := 113) (v := .ref 1009) rfl rfl rfl rfl rfl ?_
      refine g_calli (a := m_X3_pop) (as := [.ref 1009]) (rest := []) (ls0 := [.ref 1009]) (pc' := 116) (t_virt rfl rfl rfl rfl rfl rfl) rfl rfl rfl ?_
      refine zGo.mono H (zKi_mono ?_)
      intro v4 w3 H
      refine g_ifne (pc' := 119) rfl rfl (fun hc => ?_) (fun hc => ?_)
      · replace H := H.1 hc
        refine g_psh (pc' := 120) (v' := .int 1) rfl (congrArg Value.int kc_i1) ?_
        refine g_s (pc' := 124) rfl ?_
        exact H
      · replace H := H.2 hc
        refine g_psh (pc' := 124) (v' := .int 0) rfl (congrArg Value.int kc_i0) ?_
        exact H
    · replace H := H.2 hc
      refine g_s (pc' := 104) rfl ?_
      refine g_psh (pc' := 106) (v' := .int 23) rfl (congrArg Value.int kc_b23) ?_
      refine g_icne (pc' := 109) rfl rfl (fun hc => ?_) (fun hc => ?_)
      · replace H := H.1 hc
        refine g_s (pc' := 110) rfl ?_
        refine g_getf (pc' := 113) (v := .ref 1009) rfl rfl rfl rfl rfl ?_
        refine g_calli (a := m_X3_pop) (as := [.ref 1009]) (rest := []) (ls0 := [.ref 1009]) (pc' := 116) (t_virt rfl rfl rfl rfl rfl rfl) rfl rfl rfl ?_
        refine zGo.mono H (zKi_mono ?_)
        intro v6 w5 H
        refine g_ifne (pc' := 119) rfl rfl (fun hc => ?_) (fun hc => ?_)
        · replace H := H.1 hc
          refine g_psh (pc' := 120) (v' := .int 1) rfl (congrArg Value.int kc_i1) ?_
          refine g_s (pc' := 124) rfl ?_
          exact H
        · replace H := H.2 hc
          refine g_psh (pc' := 124) (v' := .int 0) rfl (congrArg Value.int kc_i0) ?_
          exact H
      · replace H := H.2 hc
        refine g_s (pc' := 176) rfl ?_
        refine g_ifne (pc' := 179) rfl rfl (fun hc => ?_) (fun hc => ?_)
        · replace H := H.1 hc
          refine g_s (pc' := 180) rfl ?_
          refine g_psh (pc' := 181) (v' := .int 3) rfl (congrArg Value.int kc_i3) ?_
          refine g_putI (pc' := 184) rfl rfl rfl rfl rfl rfl (fun _ => rfl) ?_
          refine g_s (pc' := 213) rfl ?_
          exact g_retv rfl rfl H
        · replace H := H.2 hc
          refine g_s (pc' := 188) rfl ?_
          refine g_s (pc' := 189) rfl ?_
          refine g_s (pc' := 190) rfl ?_
          refine g_getf (pc' := 193) (v := .ref 1003) rfl rfl rfl rfl rfl ?_
          refine g_s (pc' := 194) rfl ?_
          refine g_getf (pc' := 197) (v := .int (yI w 1007 6)) rfl rfl rfl rfl rfl ?_
          refine g_calli (a := m_X0_argument) (as := [.ref 1003, .int (yI w 1007 6)]) (rest := [.int a1, .ref 1007]) (ls0 := [.ref 1003, .int (yI w 1007 6)]) (pc' := 200) (t_virt rfl rfl rfl rfl rfl rfl) rfl rfl rfl ?_
          refine zGo.mono H (zKi_mono ?_)
          intro v8 w7 H
          refine g_callv (a := m_X1_move) (as := [.ref 1007, .int a1, .int v8]) (rest := []) (ls0 := [.ref 1007, .int a1, .int v8, zJ]) (pc' := 203) (t_virt rfl rfl rfl rfl rfl rfl) rfl rfl rfl ?_
          refine zGo.mono H (zKv_mono ?_)
          intro w9 H
          refine g_s (pc' := 204) rfl ?_
          refine g_s (pc' := 205) rfl ?_
          refine g_getf (pc' := 208) (v := .int (yI w9 1007 6)) rfl rfl rfl rfl rfl ?_
          refine g_psh (pc' := 209) (v' := .int 1) rfl (congrArg Value.int kc_i1) ?_
          refine g_s (pc' := 210) (st' := [.int ((yI w9 1007 6) + (1 : Int32)), .ref 1007]) rfl ?_
          refine g_putI (pc' := 213) rfl rfl rfl rfl rfl rfl (fun _ => rfl) ?_
          exact g_retv rfl rfl H
set_option maxHeartbeats 4000000 in
theorem B_X1_step_124 {d : Nat} {w : zm} {F : zm → Prop} (a1 : Int32) (s0 : Int32)
    (H : ((a1 = (23 : Int32) → ((s0 = (1 : Int32) → zGo (d + 1) m_X1_step 143 [.ref 1007, .int a1, zJ] [.int (1 : Int32)] (yz w) (zKv F)) ∧ (¬ s0 = (1 : Int32) → zGo (d + 1) m_X1_step 143 [.ref 1007, .int a1, zJ] [.int (0 : Int32)] (yz w) (zKv F)))) ∧ (¬ a1 = (23 : Int32) → ((s0 = (0 : Int32) → zGo (d + 1) m_X1_step 143 [.ref 1007, .int a1, zJ] [.int (1 : Int32)] (yz w) (zKv F)) ∧ (¬ s0 = (0 : Int32) → zGo (d + 1) m_X1_step 143 [.ref 1007, .int a1, zJ] [.int (0 : Int32)] (yz w) (zKv F)))))) :
    zGo (d + 1) m_X1_step 124 [.ref 1007, .int a1, zJ] [.int s0] (yz w) (zKv F) := by
  refine g_s (pc' := 125) rfl ?_
  refine g_psh (pc' := 127) (v' := .int 23) rfl (congrArg Value.int kc_b23) ?_
  refine g_icne (pc' := 130) rfl rfl (fun hc => ?_) (fun hc => ?_)
  · replace H := H.1 hc
    refine g_psh (pc' := 131) (v' := .int 1) rfl (congrArg Value.int kc_i1) ?_
    refine g_s (pc' := 135) rfl ?_
    refine g_icne (pc' := 138) rfl rfl (fun hc => ?_) (fun hc => ?_)
    · replace H := H.1 hc
      refine g_psh (pc' := 139) (v' := .int 1) rfl (congrArg Value.int kc_i1) ?_
      refine g_s (pc' := 143) rfl ?_
      exact H
    · replace H := H.2 hc
      refine g_psh (pc' := 143) (v' := .int 0) rfl (congrArg Value.int kc_i0) ?_
      exact H
  · replace H := H.2 hc
    refine g_psh (pc' := 135) (v' := .int 0) rfl (congrArg Value.int kc_i0) ?_
    refine g_icne (pc' := 138) rfl rfl (fun hc => ?_) (fun hc => ?_)
    · replace H := H.1 hc
      refine g_psh (pc' := 139) (v' := .int 1) rfl (congrArg Value.int kc_i1) ?_
      refine g_s (pc' := 143) rfl ?_
      exact H
    · replace H := H.2 hc
      refine g_psh (pc' := 143) (v' := .int 0) rfl (congrArg Value.int kc_i0) ?_
      exact H
set_option maxHeartbeats 4000000 in
theorem B_X1_step_143 {d : Nat} {w : zm} {F : zm → Prop} (a1 : Int32) (s0 : Int32)
    (H : ((s0 = 0 → F (yuI w 1007 6 ((yI w 1007 6) + (1 : Int32)))) ∧ (¬ s0 = 0 → zGo d m_X0_argument 0 [.ref 1003, .int (yI w 1007 6)] [] (yz w) (zKi fun v2 w1 => F (yuI w1 1007 6 v2))))) :
    zGo (d + 1) m_X1_step 143 [.ref 1007, .int a1, zJ] [.int s0] (yz w) (zKv F) := by
  refine g_ist (k := 2) (pc' := 144) (ls' := [.ref 1007, .int a1, .int s0]) rfl rfl rfl rfl (zst1_of rfl (Or.inr rfl) rfl) ?_
  refine g_s (pc' := 145) rfl ?_
  refine g_s (pc' := 146) rfl ?_
  refine g_ifeq (pc' := 149) rfl rfl (fun hc => ?_) (fun hc => ?_)
  · replace H := H.1 hc
    refine g_s (pc' := 164) rfl ?_
    refine g_getf (pc' := 167) (v := .int (yI w 1007 6)) rfl rfl rfl rfl rfl ?_
    refine g_psh (pc' := 168) (v' := .int 1) rfl (congrArg Value.int kc_i1) ?_
    refine g_s (pc' := 169) (st' := [.int ((yI w 1007 6) + (1 : Int32)), .ref 1007]) rfl ?_
    refine g_putI (pc' := 172) rfl rfl rfl rfl rfl rfl (fun _ => rfl) ?_
    refine g_s (pc' := 213) rfl ?_
    exact g_retv rfl rfl H
  · replace H := H.2 hc
    refine g_s (pc' := 150) rfl ?_
    refine g_getf (pc' := 153) (v := .ref 1003) rfl rfl rfl rfl rfl ?_
    refine g_s (pc' := 154) rfl ?_
    refine g_getf (pc' := 157) (v := .int (yI w 1007 6)) rfl rfl rfl rfl rfl ?_
    refine g_calli (a := m_X0_argument) (as := [.ref 1003, .int (yI w 1007 6)]) (rest := [.ref 1007]) (ls0 := [.ref 1003, .int (yI w 1007 6)]) (pc' := 160) (t_virt rfl rfl rfl rfl rfl rfl) rfl rfl rfl ?_
    refine zGo.mono H (zKi_mono ?_)
    intro v2 w1 H
    refine g_s (pc' := 169) rfl ?_
    refine g_putI (pc' := 172) rfl rfl rfl rfl rfl rfl (fun _ => rfl) ?_
    refine g_s (pc' := 213) rfl ?_
    exact g_retv rfl rfl H
set_option maxHeartbeats 4000000 in
theorem B_X1_store_0 {d : Nat} {w : zm} {F : zm → Prop} (a1 : Int32) (a2 : Int32)
    (H : ((a1 < 0 → F w) ∧ (¬ a1 < 0 → ((a1 < (16 : Int32) → (zin a1 16) ∧ F (yuA w 1008 (Int32.toNatClampNeg a1) a2)) ∧ (¬ a1 < (16 : Int32) → F w))))) :
    zGo d m_X1_store 0 [.ref 1007, .int a1, .int a2] [] (yz w) (zKv F) := by
  refine g_s (pc' := 1) rfl ?_
  refine g_iflt (pc' := 4) rfl rfl (fun hc => ?_) (fun hc => ?_)
  · replace H := H.1 hc
    exact g_retv rfl rfl H
  · replace H := H.2 hc
    refine g_s (pc' := 5) rfl ?_
    refine g_psh (pc' := 7) (v' := .int 16) rfl (congrArg Value.int kc_b16) ?_
    refine g_icge (pc' := 10) rfl rfl (fun hc => ?_) (fun hc => ?_)
    · replace H := H.1 hc
      refine g_s (pc' := 11) rfl ?_
      refine g_getf (pc' := 14) (v := .ref 1008) rfl rfl rfl rfl rfl ?_
      refine g_s (pc' := 15) rfl ?_
      refine g_s (pc' := 16) rfl ?_
      obtain ⟨hi1, H⟩ := H
      refine g_iast (pc' := 17) rfl rfl rfl rfl rfl rfl hi1 ?_
      exact g_retv rfl rfl H
    · replace H := H.2 hc
      exact g_retv rfl rfl H
set_option maxHeartbeats 4000000 in
theorem B_X1_toBeginning_0 {d : Nat} {w : zm} {F : zm → Prop} 
    (H : zGo d m_J7_fill_53178 0 [.ref 1011, .int (0 : Int32), zJ, zJ] [] (yz (yuL (yuI (yuI (yuI w 1007 6 (0 : Int32)) 1009 1 (0 : Int32)) 1007 7 (0 : Int32)) 1007 8 (0 : Int64))) (zKv fun w1 => F w1)) :
    zGo (d + 1) m_X1_toBeginning 0 [.ref 1007] [] (yz w) (zKv F) := by
  refine g_s (pc' := 1) rfl ?_
  refine g_psh (pc' := 2) (v' := .int 0) rfl (congrArg Value.int kc_i0) ?_
  refine g_putI (pc' := 5) rfl rfl rfl rfl rfl rfl (fun _ => rfl) ?_
  refine g_s (pc' := 6) rfl ?_
  refine g_getf (pc' := 9) (v := .ref 1009) rfl rfl rfl rfl rfl ?_
  refine g_psh (pc' := 10) (v' := .int 0) rfl (congrArg Value.int kc_i0) ?_
  refine g_putI (pc' := 13) rfl rfl rfl rfl rfl rfl (fun _ => rfl) ?_
  refine g_s (pc' := 14) rfl ?_
  refine g_psh (pc' := 15) (v' := .int 0) rfl (congrArg Value.int kc_i0) ?_
  refine g_putI (pc' := 18) rfl rfl rfl rfl rfl rfl (fun _ => rfl) ?_
  refine g_s (pc' := 19) rfl ?_
  refine g_psh (pc' := 20) (v' := .long 0) rfl (congrArg Value.long kc_l0) ?_
  refine g_putL (pc' := 23) rfl rfl rfl rfl rfl rfl (fun _ => rfl) ?_
  refine g_s (pc' := 24) rfl ?_
  refine g_getf (pc' := 27) (v := .ref 1011) rfl rfl rfl rfl rfl ?_
  refine g_psh (pc' := 28) (v' := .int 0) rfl (congrArg Value.int kc_i0) ?_
  refine g_callv (a := m_J7_fill_53178) (as := [.ref 1011, .int (0 : Int32)]) (rest := []) (ls0 := [.ref 1011, .int (0 : Int32), zJ, zJ]) (pc' := 31) (t_stat rfl (Or.inl rfl) rfl rfl rfl rfl) rfl rfl rfl ?_
  refine zGo.mono H (zKv_mono ?_)
  intro w1 H
  exact g_retv rfl rfl H
set_option maxHeartbeats 4000000 in
theorem B_X1_wouldBreak_0 {d : Nat} {w : zm} {F : Int32 → zm → Prop} 
    (H : zGo d m_X0_op 0 [.ref 1003, .int (yI w 1007 6)] [] (yz w) (zKi fun v2 w1 => ((v2 = (7 : Int32) → zGo d m_X3_top 0 [.ref 1009] [] (yz w1) (zKi fun v4 w3 => ((v4 = 0 → F (1 : Int32) w3) ∧ (¬ v4 = 0 → F (0 : Int32) w3)))) ∧ (¬ v2 = (7 : Int32) → ((v2 = (8 : Int32) → zGo d m_X3_top 0 [.ref 1009] [] (yz w1) (zKi fun v6 w5 => ((v6 = 0 → F (1 : Int32) w5) ∧ (¬ v6 = 0 → F (0 : Int32) w5)))) ∧ (¬ v2 = (8 : Int32) → F (0 : Int32) w1)))))) :
    zGo (d + 1) m_X1_wouldBreak 0 [.ref 1007, zJ] [] (yz w) (zKi F) := by
  refine g_s (pc' := 1) rfl ?_
  refine g_getf (pc' := 4) (v := .ref 1003) rfl rfl rfl rfl rfl ?_
  refine g_s (pc' := 5) rfl ?_
  refine g_getf (pc' := 8) (v := .int (yI w 1007 6)) rfl rfl rfl rfl rfl ?_
  refine g_calli (a := m_X0_op) (as := [.ref 1003, .int (yI w 1007 6)]) (rest := []) (ls0 := [.ref 1003, .int (yI w 1007 6)]) (pc' := 11) (t_virt rfl rfl rfl rfl rfl rfl) rfl rfl rfl ?_
  refine zGo.mono H (zKi_mono ?_)
  intro v2 w1 H
  refine g_ist (k := 1) (pc' := 12) (ls' := [.ref 1007, .int v2]) rfl rfl rfl rfl (zst1_of rfl (Or.inr rfl) rfl) ?_
  refine g_s (pc' := 13) rfl ?_
  refine g_psh (pc' := 15) (v' := .int 7) rfl (congrArg Value.int kc_b7) ?_
  refine g_iceq (pc' := 18) rfl rfl (fun hc => ?_) (fun hc => ?_)
  · replace H := H.1 hc
    refine g_s (pc' := 25) rfl ?_
    refine g_getf (pc' := 28) (v := .ref 1009) rfl rfl rfl rfl rfl ?_
    refine g_calli (a := m_X3_top) (as := [.ref 1009]) (rest := []) (ls0 := [.ref 1009]) (pc' := 31) (t_virt rfl rfl rfl rfl rfl rfl) rfl rfl rfl ?_
    refine zGo.mono H (zKi_mono ?_)
    intro v4 w3 H
    refine g_ifne (pc' := 34) rfl rfl (fun hc => ?_) (fun hc => ?_)
    · replace H := H.1 hc
      refine g_psh (pc' := 35) (v' := .int 1) rfl (congrArg Value.int kc_i1) ?_
      refine g_s (pc' := 39) rfl ?_
      exact g_reti rfl (zbool _ (Or.inr rfl)) H
    · replace H := H.2 hc
      refine g_psh (pc' := 39) (v' := .int 0) rfl (congrArg Value.int kc_i0) ?_
      exact g_reti rfl (zbool _ (Or.inl rfl)) H
  · replace H := H.2 hc
    refine g_s (pc' := 19) rfl ?_
    refine g_psh (pc' := 21) (v' := .int 8) rfl (congrArg Value.int kc_b8) ?_
    refine g_icne (pc' := 24) rfl rfl (fun hc => ?_) (fun hc => ?_)
    · replace H := H.1 hc
      refine g_s (pc' := 25) rfl ?_
      refine g_getf (pc' := 28) (v := .ref 1009) rfl rfl rfl rfl rfl ?_
      refine g_calli (a := m_X3_top) (as := [.ref 1009]) (rest := []) (ls0 := [.ref 1009]) (pc' := 31) (t_virt rfl rfl rfl rfl rfl rfl) rfl rfl rfl ?_
      refine zGo.mono H (zKi_mono ?_)
      intro v6 w5 H
      refine g_ifne (pc' := 34) rfl rfl (fun hc => ?_) (fun hc => ?_)
      · replace H := H.1 hc
        refine g_psh (pc' := 35) (v' := .int 1) rfl (congrArg Value.int kc_i1) ?_
        refine g_s (pc' := 39) rfl ?_
        exact g_reti rfl (zbool _ (Or.inr rfl)) H
      · replace H := H.2 hc
        refine g_psh (pc' := 39) (v' := .int 0) rfl (congrArg Value.int kc_i0) ?_
        exact g_reti rfl (zbool _ (Or.inl rfl)) H
    · replace H := H.2 hc
      refine g_psh (pc' := 39) (v' := .int 0) rfl (congrArg Value.int kc_i0) ?_
      exact g_reti rfl (zbool _ (Or.inl rfl)) H
