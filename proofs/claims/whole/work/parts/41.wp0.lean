/-! what is enough for a run from here, of each method: printed by gen_wp.py out of the table -/
set_option maxHeartbeats 4000000 in
theorem B_X0_argument_0 {d : Nat} {w : zm} {F : Int32 → zm → Prop} (a1 : Int32)
    (H : zGo d m_X0_holds 0 [.ref 1003, .int a1] [] (yz w) (zKi fun v2 w1 => ((v2 = 0 → F (0 : Int32) w1) ∧ (¬ v2 = 0 → (zin a1 200) ∧ F ((yA w1 1004 (Int32.toNatClampNeg a1)) >>> ((6 : Int32) &&& 31)) w1)))) :
    zGo (d + 1) m_X0_argument 0 [.ref 1003, .int a1] [] (yz w) (zKi F) := by
  refine g_s (pc' := 1) rfl ?_
  refine g_s (pc' := 2) rfl ?_
  refine g_calli (a := m_X0_holds) (as := [.ref 1003, .int a1]) (rest := []) (ls0 := [.ref 1003, .int a1]) (pc' := 5) (t_virt rfl rfl rfl rfl rfl rfl) rfl rfl rfl ?_
  refine zGo.mono H (zKi_mono ?_)
  intro v2 w1 H
  refine g_ifeq (pc' := 8) rfl rfl (fun hc => ?_) (fun hc => ?_)
  · replace H := H.1 hc
    refine g_psh (pc' := 21) (v' := .int 0) rfl (congrArg Value.int kc_i0) ?_
    exact g_reti rfl rfl H
  · replace H := H.2 hc
    refine g_s (pc' := 9) rfl ?_
    refine g_getf (pc' := 12) (v := .ref 1004) rfl rfl rfl rfl rfl ?_
    refine g_s (pc' := 13) rfl ?_
    obtain ⟨hi3, H⟩ := H
    refine g_iald (pc' := 14) rfl rfl rfl rfl rfl (Or.inl rfl) hi3 ?_
    refine g_psh (pc' := 16) (v' := .int 6) rfl (congrArg Value.int kc_b6) ?_
    refine g_s (pc' := 17) (st' := [.int ((yA w1 1004 (Int32.toNatClampNeg a1)) >>> ((6 : Int32) &&& 31))]) rfl ?_
    refine g_s (pc' := 21) rfl ?_
    exact g_reti rfl rfl H
set_option maxHeartbeats 4000000 in
theorem B_X0_clear_0 {d : Nat} {w : zm} {F : zm → Prop} 
    (H : F (yuI (yuI w 1003 3 (0 : Int32)) 1003 4 (-1 : Int32))) :
    zGo d m_X0_clear 0 [.ref 1003] [] (yz w) (zKv F) := by
  refine g_s (pc' := 1) rfl ?_
  refine g_psh (pc' := 2) (v' := .int 0) rfl (congrArg Value.int kc_i0) ?_
  refine g_putI (pc' := 5) rfl rfl rfl rfl rfl rfl (fun _ => rfl) ?_
  refine g_s (pc' := 6) rfl ?_
  refine g_psh (pc' := 7) (v' := .int (-1)) rfl (congrArg Value.int kc_im1) ?_
  refine g_putI (pc' := 10) rfl rfl rfl rfl rfl rfl (fun _ => rfl) ?_
  exact g_retv rfl rfl H
set_option maxHeartbeats 4000000 in
theorem B_X0_faultOfWord_0 {d : Nat} {w : zm} {F : Int32 → zm → Prop} (a1 : Int32) (a2 : Int32)
    (H : ((a1 < (27 : Int32) → ((a1 = (2 : Int32) → ((a2 < 0 → zGo (d + 1) m_X0_faultOfWord 35 [.ref 1003, .int a1, .int a2, zJ, zJ] [.int (1 : Int32)] (yz w) (zKi F)) ∧ (¬ a2 < 0 → ((a2 < (16 : Int32) → zGo (d + 1) m_X0_faultOfWord 35 [.ref 1003, .int a1, .int a2, zJ, zJ] [.int (0 : Int32)] (yz w) (zKi F)) ∧ (¬ a2 < (16 : Int32) → zGo (d + 1) m_X0_faultOfWord 35 [.ref 1003, .int a1, .int a2, zJ, zJ] [.int (1 : Int32)] (yz w) (zKi F)))))) ∧ (¬ a1 = (2 : Int32) → ((a1 = (3 : Int32) → ((a2 < 0 → zGo (d + 1) m_X0_faultOfWord 35 [.ref 1003, .int a1, .int a2, zJ, zJ] [.int (1 : Int32)] (yz w) (zKi F)) ∧ (¬ a2 < 0 → ((a2 < (16 : Int32) → zGo (d + 1) m_X0_faultOfWord 35 [.ref 1003, .int a1, .int a2, zJ, zJ] [.int (0 : Int32)] (yz w) (zKi F)) ∧ (¬ a2 < (16 : Int32) → zGo (d + 1) m_X0_faultOfWord 35 [.ref 1003, .int a1, .int a2, zJ, zJ] [.int (1 : Int32)] (yz w) (zKi F)))))) ∧ (¬ a1 = (3 : Int32) → zGo (d + 1) m_X0_faultOfWord 35 [.ref 1003, .int a1, .int a2, zJ, zJ] [.int (0 : Int32)] (yz w) (zKi F)))))) ∧ (¬ a1 < (27 : Int32) → F (1 : Int32) w))) :
    zGo (d + 1) m_X0_faultOfWord 0 [.ref 1003, .int a1, .int a2, zJ, zJ] [] (yz w) (zKi F) := by
  refine g_s (pc' := 1) rfl ?_
  refine g_s (pc' := 4) rfl ?_
  refine g_alen (pc' := 5) (v := 27) (t := 9) (n := 27) rfl rfl rfl rfl rfl kc_n27 ?_
  refine g_iclt (pc' := 8) rfl rfl (fun hc => ?_) (fun hc => ?_)
  · replace H := H.1 hc
    refine g_s (pc' := 11) rfl ?_
    refine g_psh (pc' := 12) (v' := .int 2) rfl (congrArg Value.int kc_i2) ?_
    refine g_iceq (pc' := 15) rfl rfl (fun hc => ?_) (fun hc => ?_)
    · replace H := H.1 hc
      refine g_s (pc' := 21) rfl ?_
      refine g_iflt (pc' := 24) rfl rfl (fun hc => ?_) (fun hc => ?_)
      · replace H := H.1 hc
        refine g_psh (pc' := 31) (v' := .int 1) rfl (congrArg Value.int kc_i1) ?_
        refine g_s (pc' := 35) rfl ?_
        exact H
      · replace H := H.2 hc
        refine g_s (pc' := 25) rfl ?_
        refine g_psh (pc' := 27) (v' := .int 16) rfl (congrArg Value.int kc_b16) ?_
        refine g_iclt (pc' := 30) rfl rfl (fun hc => ?_) (fun hc => ?_)
        · replace H := H.1 hc
          refine g_psh (pc' := 35) (v' := .int 0) rfl (congrArg Value.int kc_i0) ?_
          exact H
        · replace H := H.2 hc
          refine g_psh (pc' := 31) (v' := .int 1) rfl (congrArg Value.int kc_i1) ?_
          refine g_s (pc' := 35) rfl ?_
          exact H
    · replace H := H.2 hc
      refine g_s (pc' := 16) rfl ?_
      refine g_psh (pc' := 17) (v' := .int 3) rfl (congrArg Value.int kc_i3) ?_
      refine g_icne (pc' := 20) rfl rfl (fun hc => ?_) (fun hc => ?_)
      · replace H := H.1 hc
        refine g_s (pc' := 21) rfl ?_
        refine g_iflt (pc' := 24) rfl rfl (fun hc => ?_) (fun hc => ?_)
        · replace H := H.1 hc
          refine g_psh (pc' := 31) (v' := .int 1) rfl (congrArg Value.int kc_i1) ?_
          refine g_s (pc' := 35) rfl ?_
          exact H
        · replace H := H.2 hc
          refine g_s (pc' := 25) rfl ?_
          refine g_psh (pc' := 27) (v' := .int 16) rfl (congrArg Value.int kc_b16) ?_
          refine g_iclt (pc' := 30) rfl rfl (fun hc => ?_) (fun hc => ?_)
          · replace H := H.1 hc
            refine g_psh (pc' := 35) (v' := .int 0) rfl (congrArg Value.int kc_i0) ?_
            exact H
          · replace H := H.2 hc
            refine g_psh (pc' := 31) (v' := .int 1) rfl (congrArg Value.int kc_i1) ?_
            refine g_s (pc' := 35) rfl ?_
            exact H
      · replace H := H.2 hc
        refine g_psh (pc' := 35) (v' := .int 0) rfl (congrArg Value.int kc_i0) ?_
        exact H
  · replace H := H.2 hc
    refine g_psh (pc' := 9) (v' := .int 1) rfl (congrArg Value.int kc_i1) ?_
    exact g_reti rfl rfl H
set_option maxHeartbeats 4000000 in
theorem B_X0_faultOfWord_35 {d : Nat} {w : zm} {F : Int32 → zm → Prop} (a1 : Int32) (a2 : Int32) (s0 : Int32)
    (H : zGo d m_X8_isJump 0 [.int a1] [] (yz w) (zKi fun v2 w1 => ((v2 = 0 → zGo (d + 1) m_X0_faultOfWord 56 [.ref 1003, .int a1, .int a2, .int s0, zJ] [.int (0 : Int32)] (yz w1) (zKi F)) ∧ (¬ v2 = 0 → zGo d m_X0_holds 0 [.ref 1003, .int a2] [] (yz w1) (zKi fun v4 w3 => ((v4 = 0 → zGo (d + 1) m_X0_faultOfWord 56 [.ref 1003, .int a1, .int a2, .int s0, zJ] [.int (1 : Int32)] (yz w3) (zKi F)) ∧ (¬ v4 = 0 → zGo (d + 1) m_X0_faultOfWord 56 [.ref 1003, .int a1, .int a2, .int s0, zJ] [.int (0 : Int32)] (yz w3) (zKi F)))))))) :
    zGo (d + 1) m_X0_faultOfWord 35 [.ref 1003, .int a1, .int a2, zJ, zJ] [.int s0] (yz w) (zKi F) := by
  refine g_ist (k := 3) (pc' := 36) (ls' := [.ref 1003, .int a1, .int a2, .int s0, zJ]) rfl rfl rfl rfl (zst1_of rfl (Or.inr rfl) rfl) ?_
  refine g_s (pc' := 37) rfl ?_
  refine g_calli (a := m_X8_isJump) (as := [.int a1]) (rest := []) (ls0 := [.int a1]) (pc' := 40) (t_stat rfl (Or.inr rfl) rfl rfl rfl rfl) rfl rfl rfl ?_
  refine zGo.mono H (zKi_mono ?_)
  intro v2 w1 H
  refine g_ifeq (pc' := 43) rfl rfl (fun hc => ?_) (fun hc => ?_)
  · replace H := H.1 hc
    refine g_psh (pc' := 56) (v' := .int 0) rfl (congrArg Value.int kc_i0) ?_
    exact H
  · replace H := H.2 hc
    refine g_s (pc' := 44) rfl ?_
    refine g_s (pc' := 45) rfl ?_
    refine g_calli (a := m_X0_holds) (as := [.ref 1003, .int a2]) (rest := []) (ls0 := [.ref 1003, .int a2]) (pc' := 48) (t_virt rfl rfl rfl rfl rfl rfl) rfl rfl rfl ?_
    refine zGo.mono H (zKi_mono ?_)
    intro v4 w3 H
    refine g_ifne (pc' := 51) rfl rfl (fun hc => ?_) (fun hc => ?_)
    · replace H := H.1 hc
      refine g_psh (pc' := 52) (v' := .int 1) rfl (congrArg Value.int kc_i1) ?_
      refine g_s (pc' := 56) rfl ?_
      exact H
    · replace H := H.2 hc
      refine g_psh (pc' := 56) (v' := .int 0) rfl (congrArg Value.int kc_i0) ?_
      exact H
set_option maxHeartbeats 4000000 in
theorem B_X0_faultOfWord_56 {d : Nat} {w : zm} {F : Int32 → zm → Prop} (a1 : Int32) (a2 : Int32) (a3 : Int32) (s0 : Int32)
    (H : ((a3 = 0 → ((s0 = 0 → F (0 : Int32) w) ∧ (¬ s0 = 0 → F (2 : Int32) w))) ∧ (¬ a3 = 0 → F (2 : Int32) w))) :
    zGo (d + 1) m_X0_faultOfWord 56 [.ref 1003, .int a1, .int a2, .int a3, zJ] [.int s0] (yz w) (zKi F) := by
  refine g_ist (k := 4) (pc' := 58) (ls' := [.ref 1003, .int a1, .int a2, .int a3, .int s0]) rfl rfl rfl rfl (zst1_of rfl (Or.inr rfl) rfl) ?_
  refine g_s (pc' := 59) rfl ?_
  refine g_ifne (pc' := 62) rfl rfl (fun hc => ?_) (fun hc => ?_)
  · replace H := H.1 hc
    refine g_s (pc' := 64) rfl ?_
    refine g_ifeq (pc' := 67) rfl rfl (fun hc => ?_) (fun hc => ?_)
    · replace H := H.1 hc
      refine g_psh (pc' := 72) (v' := .int 0) rfl (congrArg Value.int kc_i0) ?_
      exact g_reti rfl rfl H
    · replace H := H.2 hc
      refine g_psh (pc' := 68) (v' := .int 2) rfl (congrArg Value.int kc_i2) ?_
      refine g_s (pc' := 72) rfl ?_
      exact g_reti rfl rfl H
  · replace H := H.2 hc
    refine g_psh (pc' := 68) (v' := .int 2) rfl (congrArg Value.int kc_i2) ?_
    refine g_s (pc' := 72) rfl ?_
    exact g_reti rfl rfl H
set_option maxHeartbeats 4000000 in
theorem B_X0_findFault_0 {d : Nat} {w : zm} {F : Int32 → zm → Prop} 
    (H : zGo d m_X0_findFaultOfWords 0 [.ref 1003, zJ, zJ] [] (yz (yuI w 1003 4 (-1 : Int32))) (zKi fun v2 w1 => ((v2 = 0 → zGo d m_X0_findFaultOfHeights 0 [.ref 1003, zJ, zJ, zJ, zJ] [] (yz w1) (zKi fun v4 w3 => F v4 w3)) ∧ (¬ v2 = 0 → F v2 w1)))) :
    zGo (d + 1) m_X0_findFault 0 [.ref 1003, zJ] [] (yz w) (zKi F) := by
  refine g_s (pc' := 1) rfl ?_
  refine g_psh (pc' := 2) (v' := .int (-1)) rfl (congrArg Value.int kc_im1) ?_
  refine g_putI (pc' := 5) rfl rfl rfl rfl rfl rfl (fun _ => rfl) ?_
  refine g_s (pc' := 6) rfl ?_
  refine g_calli (a := m_X0_findFaultOfWords) (as := [.ref 1003]) (rest := []) (ls0 := [.ref 1003, zJ, zJ]) (pc' := 9) (t_virt rfl rfl rfl rfl rfl rfl) rfl rfl rfl ?_
  refine zGo.mono H (zKi_mono ?_)
  intro v2 w1 H
  refine g_ist (k := 1) (pc' := 10) (ls' := [.ref 1003, .int v2]) rfl rfl rfl rfl (zst1_of rfl (Or.inr rfl) rfl) ?_
  refine g_s (pc' := 11) rfl ?_
  refine g_ifeq (pc' := 14) rfl rfl (fun hc => ?_) (fun hc => ?_)
  · replace H := H.1 hc
    refine g_s (pc' := 19) rfl ?_
    refine g_calli (a := m_X0_findFaultOfHeights) (as := [.ref 1003]) (rest := []) (ls0 := [.ref 1003, zJ, zJ, zJ, zJ]) (pc' := 22) (t_virt rfl rfl rfl rfl rfl rfl) rfl rfl rfl ?_
    refine zGo.mono H (zKi_mono ?_)
    intro v4 w3 H
    exact g_reti rfl rfl H
  · replace H := H.2 hc
    refine g_s (pc' := 15) rfl ?_
    refine g_s (pc' := 22) rfl ?_
    exact g_reti rfl rfl H
set_option maxHeartbeats 4000000 in
theorem B_X0_findFaultOfHeights_0 {d : Nat} {w : zm} {F : Int32 → zm → Prop} 
    (H : (((yI w 1003 3) = 0 → F (6 : Int32) (yuI w 1003 4 (0 : Int32))) ∧ (¬ (yI w 1003 3) = 0 → zGo d m_J7_fill_53178 0 [.ref 1005, .int (-1 : Int32), zJ, zJ] [] (yz w) (zKv fun w1 => zGo d m_J7_fill_53178 0 [.ref 1006, .int (0 : Int32), zJ, zJ] [] (yz w1) (zKv fun w2 => zGo (d + 1) m_X0_findFaultOfHeights 42 [.ref 1003, .int (0 : Int32), .int (0 : Int32), zJ, zJ] [] (yz (yuA w2 1005 (Int32.toNatClampNeg (0 : Int32)) (0 : Int32))) (zKi F)))))) :
    zGo (d + 1) m_X0_findFaultOfHeights 0 [.ref 1003, zJ, zJ, zJ, zJ] [] (yz w) (zKi F) := by
  refine g_s (pc' := 1) rfl ?_
  refine g_getf (pc' := 4) (v := .int (yI w 1003 3)) rfl rfl rfl rfl rfl ?_
  refine g_ifne (pc' := 7) rfl rfl (fun hc => ?_) (fun hc => ?_)
  · replace H := H.1 hc
    refine g_s (pc' := 8) rfl ?_
    refine g_psh (pc' := 9) (v' := .int 0) rfl (congrArg Value.int kc_i0) ?_
    refine g_putI (pc' := 12) rfl rfl rfl rfl rfl rfl (fun _ => rfl) ?_
    refine g_psh (pc' := 14) (v' := .int 6) rfl (congrArg Value.int kc_b6) ?_
    exact g_reti rfl rfl H
  · replace H := H.2 hc
    refine g_s (pc' := 16) rfl ?_
    refine g_getf (pc' := 19) (v := .ref 1005) rfl rfl rfl rfl rfl ?_
    refine g_psh (pc' := 20) (v' := .int (-1)) rfl (congrArg Value.int kc_im1) ?_
    refine g_callv (a := m_J7_fill_53178) (as := [.ref 1005, .int (-1 : Int32)]) (rest := []) (ls0 := [.ref 1005, .int (-1 : Int32), zJ, zJ]) (pc' := 23) (t_stat rfl (Or.inl rfl) rfl rfl rfl rfl) rfl rfl rfl ?_
    refine zGo.mono H (zKv_mono ?_)
    intro w1 H
    refine g_s (pc' := 24) rfl ?_
    refine g_getf (pc' := 27) (v := .ref 1006) rfl rfl rfl rfl rfl ?_
    refine g_psh (pc' := 28) (v' := .int 0) rfl (congrArg Value.int kc_i0) ?_
    refine g_callv (a := m_J7_fill_53178) (as := [.ref 1006, .int (0 : Int32)]) (rest := []) (ls0 := [.ref 1006, .int (0 : Int32), zJ, zJ]) (pc' := 31) (t_stat rfl (Or.inl rfl) rfl rfl rfl rfl) rfl rfl rfl ?_
    refine zGo.mono H (zKv_mono ?_)
    intro w2 H
    refine g_s (pc' := 32) rfl ?_
    refine g_getf (pc' := 35) (v := .ref 1005) rfl rfl rfl rfl rfl ?_
    refine g_psh (pc' := 36) (v' := .int 0) rfl (congrArg Value.int kc_i0) ?_
    refine g_psh (pc' := 37) (v' := .int 0) rfl (congrArg Value.int kc_i0) ?_
    refine g_iast (pc' := 38) rfl rfl rfl rfl rfl rfl ⟨by decide, by decide⟩ ?_
    refine g_psh (pc' := 39) (v' := .int 0) rfl (congrArg Value.int kc_i0) ?_
    refine g_ist (k := 1) (pc' := 40) (ls' := [.ref 1003, .int (0 : Int32), zJ, zJ, zJ]) rfl rfl rfl rfl (zst1_of rfl (Or.inr rfl) rfl) ?_
    refine g_psh (pc' := 41) (v' := .int 0) rfl (congrArg Value.int kc_i0) ?_
    refine g_ist (k := 2) (pc' := 42) (ls' := [.ref 1003, .int (0 : Int32), .int (0 : Int32), zJ, zJ]) rfl rfl rfl rfl (zst1_of rfl (Or.inr rfl) rfl) ?_
    exact H
set_option maxHeartbeats 4000000 in
theorem B_X0_findFaultOfHeights_42 {d : Nat} {w : zm} {F : Int32 → zm → Prop} (a1 : Int32) (a2 : Int32) (ua3 : Value) (ua4 : Value) (hua3 : zisL ua3 = false) (hua4 : zisL ua4 = false)
    (H : ((a2 < (yI w 1003 3) → zGo d m_X0_leastToLookAt 0 [.ref 1003, .int a1, zJ] [] (yz w) (zKi fun v2 w1 => ((v2 = (-1 : Int32) → F (0 : Int32) w1) ∧ (¬ v2 = (-1 : Int32) → (zin v2 200) ∧ zGo d m_X0_lookAt 0 [.ref 1003, .int v2, zJ, zJ, zJ] [] (yz (yuA w1 1006 (Int32.toNatClampNeg v2) (1 : Int32))) (zKi fun v5 w4 => ((v5 = 0 → zGo d m_X0_op 0 [.ref 1003, .int v2] [] (yz w4) (zKi fun v7 w6 => zGo d m_X8_isJump 0 [.int v7] [] (yz w6) (zKi fun v9 w8 => ((v9 = 0 → zGo (d + 1) m_X0_findFaultOfHeights 42 [.ref 1003, .int (v2 + (1 : Int32)), .int (a2 + 1), .int v2, .int v5] [] (yz w8) (zKi F)) ∧ (¬ v9 = 0 → zGo d m_X0_argument 0 [.ref 1003, .int v2] [] (yz w8) (zKi fun v11 w10 => zGo (d + 1) m_X0_findFaultOfHeights 42 [.ref 1003, .int (if v11 < (v2 + (1 : Int32)) then v11 else (v2 + (1 : Int32))), .int (a2 + 1), .int v2, .int v5] [] (yz w10) (zKi F))))))) ∧ (¬ v5 = 0 → F v5 (yuI w4 1003 4 v2)))))))) ∧ (¬ a2 < (yI w 1003 3) → F (0 : Int32) w))) :
    zGo (d + 1) m_X0_findFaultOfHeights 42 [.ref 1003, .int a1, .int a2, ua3, ua4] [] (yz w) (zKi F) := by
  refine g_s (pc' := 43) rfl ?_
  refine g_s (pc' := 44) rfl ?_
  refine g_getf (pc' := 47) (v := .int (yI w 1003 3)) rfl rfl rfl rfl rfl ?_
  refine g_icge (pc' := 50) rfl rfl (fun hc => ?_) (fun hc => ?_)
  · replace H := H.1 hc
    refine g_s (pc' := 51) rfl ?_
    refine g_s (pc' := 52) rfl ?_
    refine g_calli (a := m_X0_leastToLookAt) (as := [.ref 1003, .int a1]) (rest := []) (ls0 := [.ref 1003, .int a1, zJ]) (pc' := 55) (t_virt rfl rfl rfl rfl rfl rfl) rfl rfl rfl ?_
    refine zGo.mono H (zKi_mono ?_)
    intro v2 w1 H
    refine g_ist (k := 3) (pc' := 56) (ls' := [.ref 1003, .int a1, .int a2, .int v2, ua4]) rfl rfl rfl rfl (zst1_of rfl (Or.inr rfl) rfl) ?_
    refine g_s (pc' := 57) rfl ?_
    refine g_psh (pc' := 58) (v' := .int (-1)) rfl (congrArg Value.int kc_im1) ?_
    refine g_icne (pc' := 61) rfl rfl (fun hc => ?_) (fun hc => ?_)
    · replace H := H.1 hc
      refine g_psh (pc' := 62) (v' := .int 0) rfl (congrArg Value.int kc_i0) ?_
      exact g_reti rfl rfl H
    · replace H := H.2 hc
      refine g_s (pc' := 64) rfl ?_
      refine g_getf (pc' := 67) (v := .ref 1006) rfl rfl rfl rfl rfl ?_
      refine g_s (pc' := 68) rfl ?_
      refine g_psh (pc' := 69) (v' := .int 1) rfl (congrArg Value.int kc_i1) ?_
      obtain ⟨hi3, H⟩ := H
      refine g_iast (pc' := 70) rfl rfl rfl rfl rfl rfl hi3 ?_
      refine g_s (pc' := 71) rfl ?_
      refine g_s (pc' := 72) rfl ?_
      refine g_calli (a := m_X0_lookAt) (as := [.ref 1003, .int v2]) (rest := []) (ls0 := [.ref 1003, .int v2, zJ, zJ, zJ]) (pc' := 75) (t_virt rfl rfl rfl rfl rfl rfl) rfl rfl rfl ?_
      refine zGo.mono H (zKi_mono ?_)
      intro v5 w4 H
      refine g_ist (k := 4) (pc' := 77) (ls' := [.ref 1003, .int a1, .int a2, .int v2, .int v5]) rfl rfl rfl rfl (zst1_of rfl (Or.inr rfl) rfl) ?_
      refine g_s (pc' := 79) rfl ?_
      refine g_ifeq (pc' := 82) rfl rfl (fun hc => ?_) (fun hc => ?_)
      · replace H := H.1 hc
        refine g_s (pc' := 91) rfl ?_
        refine g_s (pc' := 92) rfl ?_
        refine g_calli (a := m_X0_op) (as := [.ref 1003, .int v2]) (rest := []) (ls0 := [.ref 1003, .int v2]) (pc' := 95) (t_virt rfl rfl rfl rfl rfl rfl) rfl rfl rfl ?_
        refine zGo.mono H (zKi_mono ?_)
        intro v7 w6 H
        refine g_calli (a := m_X8_isJump) (as := [.int v7]) (rest := []) (ls0 := [.int v7]) (pc' := 98) (t_stat rfl (Or.inr rfl) rfl rfl rfl rfl) rfl rfl rfl ?_
        refine zGo.mono H (zKi_mono ?_)
        intro v9 w8 H
        refine g_ifeq (pc' := 101) rfl rfl (fun hc => ?_) (fun hc => ?_)
        · replace H := H.1 hc
          refine g_s (pc' := 116) rfl ?_
          refine g_psh (pc' := 117) (v' := .int 1) rfl (congrArg Value.int kc_i1) ?_
          refine g_s (pc' := 118) (st' := [.int (v2 + (1 : Int32))]) rfl ?_
          refine g_ist (k := 1) (pc' := 119) (ls' := [.ref 1003, .int (v2 + (1 : Int32)), .int a2, .int v2, .int v5]) rfl rfl rfl rfl (zst1_of rfl (Or.inr rfl) rfl) ?_
          refine g_inc (pc' := 122) (ls' := [.ref 1003, .int (v2 + (1 : Int32)), .int (a2 + 1), .int v2, .int v5]) rfl rfl rfl kc_i1 (zst1_of rfl (Or.inr rfl) rfl) ?_
          refine g_s (pc' := 42) rfl ?_
          exact H
        · replace H := H.2 hc
          refine g_s (pc' := 102) rfl ?_
          refine g_psh (pc' := 103) (v' := .int 1) rfl (congrArg Value.int kc_i1) ?_
          refine g_s (pc' := 104) (st' := [.int (v2 + (1 : Int32))]) rfl ?_
          refine g_s (pc' := 105) rfl ?_
          refine g_s (pc' := 106) rfl ?_
          refine g_calli (a := m_X0_argument) (as := [.ref 1003, .int v2]) (rest := [.int (v2 + (1 : Int32))]) (ls0 := [.ref 1003, .int v2]) (pc' := 109) (t_virt rfl rfl rfl rfl rfl rfl) rfl rfl rfl ?_
          refine zGo.mono H (zKi_mono ?_)
          intro v11 w10 H
          refine g_min (pc' := 112) rfl rfl rfl ?_
          refine g_s (pc' := 118) rfl ?_
          refine g_ist (k := 1) (pc' := 119) (ls' := [.ref 1003, .int (if v11 < (v2 + (1 : Int32)) then v11 else (v2 + (1 : Int32))), .int a2, .int v2, .int v5]) rfl rfl rfl rfl (zst1_of rfl (Or.inr rfl) rfl) ?_
          refine g_inc (pc' := 122) (ls' := [.ref 1003, .int (if v11 < (v2 + (1 : Int32)) then v11 else (v2 + (1 : Int32))), .int (a2 + 1), .int v2, .int v5]) rfl rfl rfl kc_i1 (zst1_of rfl (Or.inr rfl) rfl) ?_
          refine g_s (pc' := 42) rfl ?_
          exact H
      · replace H := H.2 hc
        refine g_s (pc' := 83) rfl ?_
        refine g_s (pc' := 84) rfl ?_
        refine g_putI (pc' := 87) rfl rfl rfl rfl rfl rfl (fun _ => rfl) ?_
        refine g_s (pc' := 89) rfl ?_
        exact g_reti rfl rfl H
  · replace H := H.2 hc
    refine g_psh (pc' := 126) (v' := .int 0) rfl (congrArg Value.int kc_i0) ?_
    exact g_reti rfl rfl H
set_option maxHeartbeats 4000000 in
theorem B_X0_findFaultOfWords_0 {d : Nat} {w : zm} {F : Int32 → zm → Prop} 
    (H : zGo (d + 1) m_X0_findFaultOfWords 2 [.ref 1003, .int (0 : Int32), zJ] [] (yz w) (zKi F)) :
    zGo (d + 1) m_X0_findFaultOfWords 0 [.ref 1003, zJ, zJ] [] (yz w) (zKi F) := by
  refine g_psh (pc' := 1) (v' := .int 0) rfl (congrArg Value.int kc_i0) ?_
  refine g_ist (k := 1) (pc' := 2) (ls' := [.ref 1003, .int (0 : Int32), zJ]) rfl rfl rfl rfl (zst1_of rfl (Or.inr rfl) rfl) ?_
  exact H
set_option maxHeartbeats 4000000 in
theorem B_X0_findFaultOfWords_2 {d : Nat} {w : zm} {F : Int32 → zm → Prop} (a1 : Int32) (ua2 : Value) (hua2 : zisL ua2 = false)
    (H : ((a1 < (yI w 1003 3) → zGo d m_X0_op 0 [.ref 1003, .int a1] [] (yz w) (zKi fun v2 w1 => zGo d m_X0_argument 0 [.ref 1003, .int a1] [] (yz w1) (zKi fun v4 w3 => zGo d m_X0_faultOfWord 0 [.ref 1003, .int v2, .int v4, zJ, zJ] [] (yz w3) (zKi fun v6 w5 => ((v6 = 0 → zGo (d + 1) m_X0_findFaultOfWords 2 [.ref 1003, .int (a1 + 1), .int v6] [] (yz w5) (zKi F)) ∧ (¬ v6 = 0 → F v6 (yuI w5 1003 4 a1))))))) ∧ (¬ a1 < (yI w 1003 3) → F (0 : Int32) w))) :
    zGo (d + 1) m_X0_findFaultOfWords 2 [.ref 1003, .int a1, ua2] [] (yz w) (zKi F) := by
  refine g_s (pc' := 3) rfl ?_
  refine g_s (pc' := 4) rfl ?_
  refine g_getf (pc' := 7) (v := .int (yI w 1003 3)) rfl rfl rfl rfl rfl ?_
  refine g_icge (pc' := 10) rfl rfl (fun hc => ?_) (fun hc => ?_)
  · replace H := H.1 hc
    refine g_s (pc' := 11) rfl ?_
    refine g_s (pc' := 12) rfl ?_
    refine g_s (pc' := 13) rfl ?_
    refine g_calli (a := m_X0_op) (as := [.ref 1003, .int a1]) (rest := [.ref 1003]) (ls0 := [.ref 1003, .int a1]) (pc' := 16) (t_virt rfl rfl rfl rfl rfl rfl) rfl rfl rfl ?_
    refine zGo.mono H (zKi_mono ?_)
    intro v2 w1 H
    refine g_s (pc' := 17) rfl ?_
    refine g_s (pc' := 18) rfl ?_
    refine g_calli (a := m_X0_argument) (as := [.ref 1003, .int a1]) (rest := [.int v2, .ref 1003]) (ls0 := [.ref 1003, .int a1]) (pc' := 21) (t_virt rfl rfl rfl rfl rfl rfl) rfl rfl rfl ?_
    refine zGo.mono H (zKi_mono ?_)
    intro v4 w3 H
    refine g_calli (a := m_X0_faultOfWord) (as := [.ref 1003, .int v2, .int v4]) (rest := []) (ls0 := [.ref 1003, .int v2, .int v4, zJ, zJ]) (pc' := 24) (t_virt rfl rfl rfl rfl rfl rfl) rfl rfl rfl ?_
    refine zGo.mono H (zKi_mono ?_)
    intro v6 w5 H
    refine g_ist (k := 2) (pc' := 25) (ls' := [.ref 1003, .int a1, .int v6]) rfl rfl rfl rfl (zst1_of rfl (Or.inr rfl) rfl) ?_
    refine g_s (pc' := 26) rfl ?_
    refine g_ifeq (pc' := 29) rfl rfl (fun hc => ?_) (fun hc => ?_)
    · replace H := H.1 hc
      refine g_inc (pc' := 39) (ls' := [.ref 1003, .int (a1 + 1), .int v6]) rfl rfl rfl kc_i1 (zst1_of rfl (Or.inr rfl) rfl) ?_
      refine g_s (pc' := 2) rfl ?_
      exact H
    · replace H := H.2 hc
      refine g_s (pc' := 30) rfl ?_
      refine g_s (pc' := 31) rfl ?_
      refine g_putI (pc' := 34) rfl rfl rfl rfl rfl rfl (fun _ => rfl) ?_
      refine g_s (pc' := 35) rfl ?_
      exact g_reti rfl rfl H
  · replace H := H.2 hc
    refine g_psh (pc' := 43) (v' := .int 0) rfl (congrArg Value.int kc_i0) ?_
    exact g_reti rfl rfl H
set_option maxHeartbeats 4000000 in
theorem B_X0_holds_0 {d : Nat} {w : zm} {F : Int32 → zm → Prop} (a1 : Int32)
    (H : ((a1 < 0 → F (0 : Int32) w) ∧ (¬ a1 < 0 → ((a1 < (yI w 1003 3) → ((a1 < (200 : Int32) → F (1 : Int32) w) ∧ (¬ a1 < (200 : Int32) → F (0 : Int32) w))) ∧ (¬ a1 < (yI w 1003 3) → F (0 : Int32) w))))) :
    zGo d m_X0_holds 0 [.ref 1003, .int a1] [] (yz w) (zKi F) := by
  refine g_s (pc' := 1) rfl ?_
  refine g_iflt (pc' := 4) rfl rfl (fun hc => ?_) (fun hc => ?_)
  · replace H := H.1 hc
    refine g_psh (pc' := 24) (v' := .int 0) rfl (congrArg Value.int kc_i0) ?_
    exact g_reti rfl (zbool _ (Or.inl rfl)) H
  · replace H := H.2 hc
    refine g_s (pc' := 5) rfl ?_
    refine g_s (pc' := 6) rfl ?_
    refine g_getf (pc' := 9) (v := .int (yI w 1003 3)) rfl rfl rfl rfl rfl ?_
    refine g_icge (pc' := 12) rfl rfl (fun hc => ?_) (fun hc => ?_)
    · replace H := H.1 hc
      refine g_s (pc' := 13) rfl ?_
      refine g_psh (pc' := 16) (v' := .int 200) rfl (congrArg Value.int kc_s200) ?_
      refine g_icge (pc' := 19) rfl rfl (fun hc => ?_) (fun hc => ?_)
      · replace H := H.1 hc
        refine g_psh (pc' := 20) (v' := .int 1) rfl (congrArg Value.int kc_i1) ?_
        refine g_s (pc' := 24) rfl ?_
        exact g_reti rfl (zbool _ (Or.inr rfl)) H
      · replace H := H.2 hc
        refine g_psh (pc' := 24) (v' := .int 0) rfl (congrArg Value.int kc_i0) ?_
        exact g_reti rfl (zbool _ (Or.inl rfl)) H
    · replace H := H.2 hc
      refine g_psh (pc' := 24) (v' := .int 0) rfl (congrArg Value.int kc_i0) ?_
      exact g_reti rfl (zbool _ (Or.inl rfl)) H
set_option maxHeartbeats 4000000 in
theorem B_X0_leastToLookAt_0 {d : Nat} {w : zm} {F : Int32 → zm → Prop} (a1 : Int32)
    (H : ((a1 < 0 → zGo d m_X0_leastToLookAt 10 [.ref 1003, .int a1, .int (0 : Int32)] [] (yz w) (zKi F)) ∧ (¬ a1 < 0 → zGo d m_X0_leastToLookAt 10 [.ref 1003, .int a1, .int a1] [] (yz w) (zKi F)))) :
    zGo d m_X0_leastToLookAt 0 [.ref 1003, .int a1, zJ] [] (yz w) (zKi F) := by
  refine g_s (pc' := 1) rfl ?_
  refine g_ifge (pc' := 4) rfl rfl (fun hc => ?_) (fun hc => ?_)
  · replace H := H.1 hc
    refine g_psh (pc' := 5) (v' := .int 0) rfl (congrArg Value.int kc_i0) ?_
    refine g_s (pc' := 9) rfl ?_
    refine g_ist (k := 2) (pc' := 10) (ls' := [.ref 1003, .int a1, .int (0 : Int32)]) rfl rfl rfl rfl (zst1_of rfl (Or.inr rfl) rfl) ?_
    exact H
  · replace H := H.2 hc
    refine g_s (pc' := 9) rfl ?_
    refine g_ist (k := 2) (pc' := 10) (ls' := [.ref 1003, .int a1, .int a1]) rfl rfl rfl rfl (zst1_of rfl (Or.inr rfl) rfl) ?_
    exact H
set_option maxHeartbeats 4000000 in
theorem B_X0_leastToLookAt_10 {d : Nat} {w : zm} {F : Int32 → zm → Prop} (a1 : Int32) (a2 : Int32)
    (H : ((a2 < (yI w 1003 3) → ((a2 < (200 : Int32) → (zin a2 200) ∧ (((yA w 1005 (Int32.toNatClampNeg a2)) = (-1 : Int32) → zGo d m_X0_leastToLookAt 10 [.ref 1003, .int a1, .int (a2 + 1)] [] (yz w) (zKi F)) ∧ (¬ (yA w 1005 (Int32.toNatClampNeg a2)) = (-1 : Int32) → (zin a2 200) ∧ (((yA w 1006 (Int32.toNatClampNeg a2)) = 0 → F a2 w) ∧ (¬ (yA w 1006 (Int32.toNatClampNeg a2)) = 0 → zGo d m_X0_leastToLookAt 10 [.ref 1003, .int a1, .int (a2 + 1)] [] (yz w) (zKi F)))))) ∧ (¬ a2 < (200 : Int32) → F (-1 : Int32) w))) ∧ (¬ a2 < (yI w 1003 3) → F (-1 : Int32) w))) :
    zGo d m_X0_leastToLookAt 10 [.ref 1003, .int a1, .int a2] [] (yz w) (zKi F) := by
  refine g_s (pc' := 11) rfl ?_
  refine g_s (pc' := 12) rfl ?_
  refine g_getf (pc' := 15) (v := .int (yI w 1003 3)) rfl rfl rfl rfl rfl ?_
  refine g_icge (pc' := 18) rfl rfl (fun hc => ?_) (fun hc => ?_)
  · replace H := H.1 hc
    refine g_s (pc' := 19) rfl ?_
    refine g_psh (pc' := 22) (v' := .int 200) rfl (congrArg Value.int kc_s200) ?_
    refine g_icge (pc' := 25) rfl rfl (fun hc => ?_) (fun hc => ?_)
    · replace H := H.1 hc
      refine g_s (pc' := 26) rfl ?_
      refine g_getf (pc' := 29) (v := .ref 1005) rfl rfl rfl rfl rfl ?_
      refine g_s (pc' := 30) rfl ?_
      obtain ⟨hi1, H⟩ := H
      refine g_iald (pc' := 31) rfl rfl rfl rfl rfl (Or.inl rfl) hi1 ?_
      refine g_psh (pc' := 32) (v' := .int (-1)) rfl (congrArg Value.int kc_im1) ?_
      refine g_iceq (pc' := 35) rfl rfl (fun hc => ?_) (fun hc => ?_)
      · replace H := H.1 hc
        refine g_inc (pc' := 49) (ls' := [.ref 1003, .int a1, .int (a2 + 1)]) rfl rfl rfl kc_i1 (zst1_of rfl (Or.inr rfl) rfl) ?_
        refine g_s (pc' := 10) rfl ?_
        exact H
      · replace H := H.2 hc
        refine g_s (pc' := 36) rfl ?_
        refine g_getf (pc' := 39) (v := .ref 1006) rfl rfl rfl rfl rfl ?_
        refine g_s (pc' := 40) rfl ?_
        obtain ⟨hi2, H⟩ := H
        refine g_iald (pc' := 41) rfl rfl rfl rfl rfl (Or.inl rfl) hi2 ?_
        refine g_ifne (pc' := 44) rfl rfl (fun hc => ?_) (fun hc => ?_)
        · replace H := H.1 hc
          refine g_s (pc' := 45) rfl ?_
          exact g_reti rfl rfl H
        · replace H := H.2 hc
          refine g_inc (pc' := 49) (ls' := [.ref 1003, .int a1, .int (a2 + 1)]) rfl rfl rfl kc_i1 (zst1_of rfl (Or.inr rfl) rfl) ?_
          refine g_s (pc' := 10) rfl ?_
          exact H
    · replace H := H.2 hc
      refine g_psh (pc' := 53) (v' := .int (-1)) rfl (congrArg Value.int kc_im1) ?_
      exact g_reti rfl rfl H
  · replace H := H.2 hc
    refine g_psh (pc' := 53) (v' := .int (-1)) rfl (congrArg Value.int kc_im1) ?_
    exact g_reti rfl rfl H
set_option maxHeartbeats 4000000 in
theorem B_X0_lookAt_0 {d : Nat} {w : zm} {F : Int32 → zm → Prop} (a1 : Int32)
    (H : zGo d m_X0_op 0 [.ref 1003, .int a1] [] (yz w) (zKi fun v2 w1 => zGo d m_X0_holds 0 [.ref 1003, .int a1] [] (yz w1) (zKi fun v4 w3 => ((v4 = 0 → F (1 : Int32) w3) ∧ (¬ v4 = 0 → ((v2 < (27 : Int32) → ((v2 < (27 : Int32) → (zin v2 27) ∧ (zin a1 200) ∧ (((yA w3 1005 (Int32.toNatClampNeg a1)) < (yA w3 1 (Int32.toNatClampNeg v2)) → F (3 : Int32) w3) ∧ (¬ (yA w3 1005 (Int32.toNatClampNeg a1)) < (yA w3 1 (Int32.toNatClampNeg v2)) → (zin a1 200) ∧ (zin v2 27) ∧ (zin v2 27) ∧ (((16 : Int32) < (((yA w3 1005 (Int32.toNatClampNeg a1)) - (yA w3 1 (Int32.toNatClampNeg v2))) + (yA w3 2 (Int32.toNatClampNeg v2))) → F (4 : Int32) w3) ∧ (¬ (16 : Int32) < (((yA w3 1005 (Int32.toNatClampNeg a1)) - (yA w3 1 (Int32.toNatClampNeg v2))) + (yA w3 2 (Int32.toNatClampNeg v2))) → ((v2 = 0 → zGo (d + 1) m_X0_lookAt 97 [.ref 1003, .int a1, .int v2, .int (((yA w3 1005 (Int32.toNatClampNeg a1)) - (yA w3 1 (Int32.toNatClampNeg v2))) + (yA w3 2 (Int32.toNatClampNeg v2))), zJ] [.int (0 : Int32)] (yz w3) (zKi F)) ∧ (¬ v2 = 0 → ((v2 = (21 : Int32) → zGo (d + 1) m_X0_lookAt 97 [.ref 1003, .int a1, .int v2, .int (((yA w3 1005 (Int32.toNatClampNeg a1)) - (yA w3 1 (Int32.toNatClampNeg v2))) + (yA w3 2 (Int32.toNatClampNeg v2))), zJ] [.int (0 : Int32)] (yz w3) (zKi F)) ∧ (¬ v2 = (21 : Int32) → zGo d m_X0_reach 0 [.ref 1003, .int (a1 + (1 : Int32)), .int (((yA w3 1005 (Int32.toNatClampNeg a1)) - (yA w3 1 (Int32.toNatClampNeg v2))) + (yA w3 2 (Int32.toNatClampNeg v2)))] [] (yz w3) (zKi fun v11 w10 => zGo (d + 1) m_X0_lookAt 97 [.ref 1003, .int a1, .int v2, .int (((yA w3 1005 (Int32.toNatClampNeg a1)) - (yA w3 1 (Int32.toNatClampNeg v2))) + (yA w3 2 (Int32.toNatClampNeg v2))), zJ] [.int v11] (yz w10) (zKi F))))))))))) ∧ (¬ v2 < (27 : Int32) → F (1 : Int32) w3))) ∧ (¬ v2 < (27 : Int32) → F (1 : Int32) w3))))))) :
    zGo (d + 1) m_X0_lookAt 0 [.ref 1003, .int a1, zJ, zJ, zJ] [] (yz w) (zKi F) := by
  refine g_s (pc' := 1) rfl ?_
  refine g_s (pc' := 2) rfl ?_
  refine g_calli (a := m_X0_op) (as := [.ref 1003, .int a1]) (rest := []) (ls0 := [.ref 1003, .int a1]) (pc' := 5) (t_virt rfl rfl rfl rfl rfl rfl) rfl rfl rfl ?_
  refine zGo.mono H (zKi_mono ?_)
  intro v2 w1 H
  refine g_ist (k := 2) (pc' := 6) (ls' := [.ref 1003, .int a1, .int v2, zJ, zJ]) rfl rfl rfl rfl (zst1_of rfl (Or.inr rfl) rfl) ?_
  refine g_s (pc' := 7) rfl ?_
  refine g_s (pc' := 8) rfl ?_
  refine g_calli (a := m_X0_holds) (as := [.ref 1003, .int a1]) (rest := []) (ls0 := [.ref 1003, .int a1]) (pc' := 11) (t_virt rfl rfl rfl rfl rfl rfl) rfl rfl rfl ?_
  refine zGo.mono H (zKi_mono ?_)
  intro v4 w3 H
  refine g_ifeq (pc' := 14) rfl rfl (fun hc => ?_) (fun hc => ?_)
  · replace H := H.1 hc
    refine g_psh (pc' := 31) (v' := .int 1) rfl (congrArg Value.int kc_i1) ?_
    exact g_reti rfl rfl H
  · replace H := H.2 hc
    refine g_s (pc' := 15) rfl ?_
    refine g_s (pc' := 18) rfl ?_
    refine g_alen (pc' := 19) (v := 27) (t := 9) (n := 27) rfl rfl rfl rfl rfl kc_n27 ?_
    refine g_icge (pc' := 22) rfl rfl (fun hc => ?_) (fun hc => ?_)
    · replace H := H.1 hc
      refine g_s (pc' := 23) rfl ?_
      refine g_s (pc' := 26) rfl ?_
      refine g_alen (pc' := 27) (v := 27) (t := 9) (n := 27) rfl rfl rfl rfl rfl kc_n27 ?_
      refine g_iclt (pc' := 30) rfl rfl (fun hc => ?_) (fun hc => ?_)
      · replace H := H.1 hc
        refine g_s (pc' := 35) rfl ?_
        refine g_s (pc' := 36) rfl ?_
        obtain ⟨hi5, H⟩ := H
        refine g_iald (pc' := 37) rfl rfl rfl rfl rfl (Or.inr rfl) hi5 ?_
        refine g_s (pc' := 38) rfl ?_
        refine g_getf (pc' := 41) (v := .ref 1005) rfl rfl rfl rfl rfl ?_
        refine g_s (pc' := 42) rfl ?_
        obtain ⟨hi6, H⟩ := H
        refine g_iald (pc' := 43) rfl rfl rfl rfl rfl (Or.inl rfl) hi6 ?_
        refine g_icle (pc' := 46) rfl rfl (fun hc => ?_) (fun hc => ?_)
        · replace H := H.1 hc
          refine g_psh (pc' := 47) (v' := .int 3) rfl (congrArg Value.int kc_i3) ?_
          exact g_reti rfl rfl H
        · replace H := H.2 hc
          refine g_s (pc' := 49) rfl ?_
          refine g_getf (pc' := 52) (v := .ref 1005) rfl rfl rfl rfl rfl ?_
          refine g_s (pc' := 53) rfl ?_
          obtain ⟨hi7, H⟩ := H
          refine g_iald (pc' := 54) rfl rfl rfl rfl rfl (Or.inl rfl) hi7 ?_
          refine g_s (pc' := 57) rfl ?_
          refine g_s (pc' := 58) rfl ?_
          obtain ⟨hi8, H⟩ := H
          refine g_iald (pc' := 59) rfl rfl rfl rfl rfl (Or.inr rfl) hi8 ?_
          refine g_s (pc' := 60) (st' := [.int ((yA w3 1005 (Int32.toNatClampNeg a1)) - (yA w3 1 (Int32.toNatClampNeg v2)))]) rfl ?_
          refine g_s (pc' := 63) rfl ?_
          refine g_s (pc' := 64) rfl ?_
          obtain ⟨hi9, H⟩ := H
          refine g_iald (pc' := 65) rfl rfl rfl rfl rfl (Or.inr rfl) hi9 ?_
          refine g_s (pc' := 66) (st' := [.int (((yA w3 1005 (Int32.toNatClampNeg a1)) - (yA w3 1 (Int32.toNatClampNeg v2))) + (yA w3 2 (Int32.toNatClampNeg v2)))]) rfl ?_
          refine g_ist (k := 3) (pc' := 67) (ls' := [.ref 1003, .int a1, .int v2, .int (((yA w3 1005 (Int32.toNatClampNeg a1)) - (yA w3 1 (Int32.toNatClampNeg v2))) + (yA w3 2 (Int32.toNatClampNeg v2))), zJ]) rfl rfl rfl rfl (zst1_of rfl (Or.inr rfl) rfl) ?_
          refine g_s (pc' := 68) rfl ?_
          refine g_psh (pc' := 70) (v' := .int 16) rfl (congrArg Value.int kc_b16) ?_
          refine g_icle (pc' := 73) rfl rfl (fun hc => ?_) (fun hc => ?_)
          · replace H := H.1 hc
            refine g_psh (pc' := 74) (v' := .int 4) rfl (congrArg Value.int kc_i4) ?_
            exact g_reti rfl rfl H
          · replace H := H.2 hc
            refine g_s (pc' := 76) rfl ?_
            refine g_ifeq (pc' := 79) rfl rfl (fun hc => ?_) (fun hc => ?_)
            · replace H := H.1 hc
              refine g_psh (pc' := 86) (v' := .int 0) rfl (congrArg Value.int kc_i0) ?_
              refine g_s (pc' := 97) rfl ?_
              exact H
            · replace H := H.2 hc
              refine g_s (pc' := 80) rfl ?_
              refine g_psh (pc' := 82) (v' := .int 21) rfl (congrArg Value.int kc_b21) ?_
              refine g_icne (pc' := 85) rfl rfl (fun hc => ?_) (fun hc => ?_)
              · replace H := H.1 hc
                refine g_psh (pc' := 86) (v' := .int 0) rfl (congrArg Value.int kc_i0) ?_
                refine g_s (pc' := 97) rfl ?_
                exact H
              · replace H := H.2 hc
                refine g_s (pc' := 90) rfl ?_
                refine g_s (pc' := 91) rfl ?_
                refine g_psh (pc' := 92) (v' := .int 1) rfl (congrArg Value.int kc_i1) ?_
                refine g_s (pc' := 93) (st' := [.int (a1 + (1 : Int32)), .ref 1003]) rfl ?_
                refine g_s (pc' := 94) rfl ?_
                refine g_calli (a := m_X0_reach) (as := [.ref 1003, .int (a1 + (1 : Int32)), .int (((yA w3 1005 (Int32.toNatClampNeg a1)) - (yA w3 1 (Int32.toNatClampNeg v2))) + (yA w3 2 (Int32.toNatClampNeg v2)))]) (rest := []) (ls0 := [.ref 1003, .int (a1 + (1 : Int32)), .int (((yA w3 1005 (Int32.toNatClampNeg a1)) - (yA w3 1 (Int32.toNatClampNeg v2))) + (yA w3 2 (Int32.toNatClampNeg v2)))]) (pc' := 97) (t_virt rfl rfl rfl rfl rfl rfl) rfl rfl rfl ?_
                refine zGo.mono H (zKi_mono ?_)
                intro v11 w10 H
                exact H
      · replace H := H.2 hc
        refine g_psh (pc' := 31) (v' := .int 1) rfl (congrArg Value.int kc_i1) ?_
        exact g_reti rfl rfl H
    · replace H := H.2 hc
      refine g_psh (pc' := 31) (v' := .int 1) rfl (congrArg Value.int kc_i1) ?_
      exact g_reti rfl rfl H
set_option maxHeartbeats 4000000 in
theorem B_X0_lookAt_97 {d : Nat} {w : zm} {F : Int32 → zm → Prop} (a1 : Int32) (a2 : Int32) (a3 : Int32) (s0 : Int32)
    (H : ((s0 = 0 → zGo d m_X8_isJump 0 [.int a2] [] (yz w) (zKi fun v2 w1 => ((v2 = 0 → F s0 w1) ∧ (¬ v2 = 0 → zGo d m_X0_argument 0 [.ref 1003, .int a1] [] (yz w1) (zKi fun v4 w3 => zGo d m_X0_reach 0 [.ref 1003, .int v4, .int a3] [] (yz w3) (zKi fun v6 w5 => F v6 w5)))))) ∧ (¬ s0 = 0 → F s0 w))) :
    zGo (d + 1) m_X0_lookAt 97 [.ref 1003, .int a1, .int a2, .int a3, zJ] [.int s0] (yz w) (zKi F) := by
  refine g_ist (k := 4) (pc' := 99) (ls' := [.ref 1003, .int a1, .int a2, .int a3, .int s0]) rfl rfl rfl rfl (zst1_of rfl (Or.inr rfl) rfl) ?_
  refine g_s (pc' := 101) rfl ?_
  refine g_ifne (pc' := 104) rfl rfl (fun hc => ?_) (fun hc => ?_)
  · replace H := H.1 hc
    refine g_s (pc' := 105) rfl ?_
    refine g_calli (a := m_X8_isJump) (as := [.int a2]) (rest := []) (ls0 := [.int a2]) (pc' := 108) (t_stat rfl (Or.inr rfl) rfl rfl rfl rfl) rfl rfl rfl ?_
    refine zGo.mono H (zKi_mono ?_)
    intro v2 w1 H
    refine g_ifeq (pc' := 111) rfl rfl (fun hc => ?_) (fun hc => ?_)
    · replace H := H.1 hc
      refine g_s (pc' := 126) rfl ?_
      exact g_reti rfl rfl H
    · replace H := H.2 hc
      refine g_s (pc' := 112) rfl ?_
      refine g_s (pc' := 113) rfl ?_
      refine g_s (pc' := 114) rfl ?_
      refine g_calli (a := m_X0_argument) (as := [.ref 1003, .int a1]) (rest := [.ref 1003]) (ls0 := [.ref 1003, .int a1]) (pc' := 117) (t_virt rfl rfl rfl rfl rfl rfl) rfl rfl rfl ?_
      refine zGo.mono H (zKi_mono ?_)
      intro v4 w3 H
      refine g_s (pc' := 118) rfl ?_
      refine g_calli (a := m_X0_reach) (as := [.ref 1003, .int v4, .int a3]) (rest := []) (ls0 := [.ref 1003, .int v4, .int a3]) (pc' := 121) (t_virt rfl rfl rfl rfl rfl rfl) rfl rfl rfl ?_
      refine zGo.mono H (zKi_mono ?_)
      intro v6 w5 H
      refine g_s (pc' := 126) rfl ?_
      exact g_reti rfl rfl H
  · replace H := H.2 hc
    refine g_s (pc' := 126) rfl ?_
    exact g_reti rfl rfl H
set_option maxHeartbeats 4000000 in
theorem B_X0_op_0 {d : Nat} {w : zm} {F : Int32 → zm → Prop} (a1 : Int32)
    (H : zGo d m_X0_holds 0 [.ref 1003, .int a1] [] (yz w) (zKi fun v2 w1 => ((v2 = 0 → F (0 : Int32) w1) ∧ (¬ v2 = 0 → (zin a1 200) ∧ F ((yA w1 1004 (Int32.toNatClampNeg a1)) &&& (63 : Int32)) w1)))) :
    zGo (d + 1) m_X0_op 0 [.ref 1003, .int a1] [] (yz w) (zKi F) := by
  refine g_s (pc' := 1) rfl ?_
  refine g_s (pc' := 2) rfl ?_
  refine g_calli (a := m_X0_holds) (as := [.ref 1003, .int a1]) (rest := []) (ls0 := [.ref 1003, .int a1]) (pc' := 5) (t_virt rfl rfl rfl rfl rfl rfl) rfl rfl rfl ?_
  refine zGo.mono H (zKi_mono ?_)
  intro v2 w1 H
  refine g_ifeq (pc' := 8) rfl rfl (fun hc => ?_) (fun hc => ?_)
  · replace H := H.1 hc
    refine g_psh (pc' := 21) (v' := .int 0) rfl (congrArg Value.int kc_i0) ?_
    exact g_reti rfl rfl H
  · replace H := H.2 hc
    refine g_s (pc' := 9) rfl ?_
    refine g_getf (pc' := 12) (v := .ref 1004) rfl rfl rfl rfl rfl ?_
    refine g_s (pc' := 13) rfl ?_
    obtain ⟨hi3, H⟩ := H
    refine g_iald (pc' := 14) rfl rfl rfl rfl rfl (Or.inl rfl) hi3 ?_
    refine g_psh (pc' := 16) (v' := .int 63) rfl (congrArg Value.int kc_b63) ?_
    refine g_s (pc' := 17) (st' := [.int ((yA w1 1004 (Int32.toNatClampNeg a1)) &&& (63 : Int32))]) rfl ?_
    refine g_s (pc' := 21) rfl ?_
    exact g_reti rfl rfl H
set_option maxHeartbeats 4000000 in
theorem B_X0_put_0 {d : Nat} {w : zm} {F : zm → Prop} (a1 : Int32) (a2 : Int32)
    (H : ((a1 < 0 → F w) ∧ (¬ a1 < 0 → (((yI w 1003 3) < a1 → F w) ∧ (¬ (yI w 1003 3) < a1 → ((a1 < (200 : Int32) → (zin a1 200) ∧ ((a1 = (yI w 1003 3) → F (yuI (yuA w 1004 (Int32.toNatClampNeg a1) a2) 1003 3 ((yI w 1003 3) + (1 : Int32)))) ∧ (¬ a1 = (yI w 1003 3) → F (yuA w 1004 (Int32.toNatClampNeg a1) a2)))) ∧ (¬ a1 < (200 : Int32) → F w))))))) :
    zGo d m_X0_put 0 [.ref 1003, .int a1, .int a2] [] (yz w) (zKv F) := by
  refine g_s (pc' := 1) rfl ?_
  refine g_iflt (pc' := 4) rfl rfl (fun hc => ?_) (fun hc => ?_)
  · replace H := H.1 hc
    exact g_retv rfl rfl H
  · replace H := H.2 hc
    refine g_s (pc' := 5) rfl ?_
    refine g_s (pc' := 6) rfl ?_
    refine g_getf (pc' := 9) (v := .int (yI w 1003 3)) rfl rfl rfl rfl rfl ?_
    refine g_icgt (pc' := 12) rfl rfl (fun hc => ?_) (fun hc => ?_)
    · replace H := H.1 hc
      exact g_retv rfl rfl H
    · replace H := H.2 hc
      refine g_s (pc' := 13) rfl ?_
      refine g_psh (pc' := 16) (v' := .int 200) rfl (congrArg Value.int kc_s200) ?_
      refine g_iclt (pc' := 19) rfl rfl (fun hc => ?_) (fun hc => ?_)
      · replace H := H.1 hc
        refine g_s (pc' := 21) rfl ?_
        refine g_getf (pc' := 24) (v := .ref 1004) rfl rfl rfl rfl rfl ?_
        refine g_s (pc' := 25) rfl ?_
        refine g_s (pc' := 26) rfl ?_
        obtain ⟨hi1, H⟩ := H
        refine g_iast (pc' := 27) rfl rfl rfl rfl rfl rfl hi1 ?_
        refine g_s (pc' := 28) rfl ?_
        refine g_s (pc' := 29) rfl ?_
        refine g_getf (pc' := 32) (v := .int (yI w 1003 3)) rfl rfl rfl rfl rfl ?_
        refine g_icne (pc' := 35) rfl rfl (fun hc => ?_) (fun hc => ?_)
        · replace H := H.1 hc
          refine g_s (pc' := 36) rfl ?_
          refine g_s (pc' := 37) rfl ?_
          refine g_getf (pc' := 40) (v := .int (yI w 1003 3)) rfl rfl rfl rfl rfl ?_
          refine g_psh (pc' := 41) (v' := .int 1) rfl (congrArg Value.int kc_i1) ?_
          refine g_s (pc' := 42) (st' := [.int ((yI w 1003 3) + (1 : Int32)), .ref 1003]) rfl ?_
          refine g_putI (pc' := 45) rfl rfl rfl rfl rfl rfl (fun _ => rfl) ?_
          exact g_retv rfl rfl H
        · replace H := H.2 hc
          exact g_retv rfl rfl H
      · replace H := H.2 hc
        exact g_retv rfl rfl H
set_option maxHeartbeats 4000000 in
theorem B_X0_reach_0 {d : Nat} {w : zm} {F : Int32 → zm → Prop} (a1 : Int32) (a2 : Int32)
    (H : zGo d m_X0_holds 0 [.ref 1003, .int a1] [] (yz w) (zKi fun v2 w1 => ((v2 = 0 → F (6 : Int32) w1) ∧ (¬ v2 = 0 → (zin a1 200) ∧ (((yA w1 1005 (Int32.toNatClampNeg a1)) = (-1 : Int32) → (zin a1 200) ∧ F (0 : Int32) (yuA w1 1005 (Int32.toNatClampNeg a1) a2)) ∧ (¬ (yA w1 1005 (Int32.toNatClampNeg a1)) = (-1 : Int32) → (zin a1 200) ∧ (((yA w1 1005 (Int32.toNatClampNeg a1)) = a2 → (zin a1 200) ∧ F (0 : Int32) (yuA w1 1005 (Int32.toNatClampNeg a1) a2)) ∧ (¬ (yA w1 1005 (Int32.toNatClampNeg a1)) = a2 → F (5 : Int32) w1)))))))) :
    zGo (d + 1) m_X0_reach 0 [.ref 1003, .int a1, .int a2] [] (yz w) (zKi F) := by
  refine g_s (pc' := 1) rfl ?_
  refine g_s (pc' := 2) rfl ?_
  refine g_calli (a := m_X0_holds) (as := [.ref 1003, .int a1]) (rest := []) (ls0 := [.ref 1003, .int a1]) (pc' := 5) (t_virt rfl rfl rfl rfl rfl rfl) rfl rfl rfl ?_
  refine zGo.mono H (zKi_mono ?_)
  intro v2 w1 H
  refine g_ifne (pc' := 8) rfl rfl (fun hc => ?_) (fun hc => ?_)
  · replace H := H.1 hc
    refine g_psh (pc' := 10) (v' := .int 6) rfl (congrArg Value.int kc_b6) ?_
    exact g_reti rfl rfl H
  · replace H := H.2 hc
    refine g_s (pc' := 12) rfl ?_
    refine g_getf (pc' := 15) (v := .ref 1005) rfl rfl rfl rfl rfl ?_
    refine g_s (pc' := 16) rfl ?_
    obtain ⟨hi3, H⟩ := H
    refine g_iald (pc' := 17) rfl rfl rfl rfl rfl (Or.inl rfl) hi3 ?_
    refine g_psh (pc' := 18) (v' := .int (-1)) rfl (congrArg Value.int kc_im1) ?_
    refine g_iceq (pc' := 21) rfl rfl (fun hc => ?_) (fun hc => ?_)
    · replace H := H.1 hc
      refine g_s (pc' := 34) rfl ?_
      refine g_getf (pc' := 37) (v := .ref 1005) rfl rfl rfl rfl rfl ?_
      refine g_s (pc' := 38) rfl ?_
      refine g_s (pc' := 39) rfl ?_
      obtain ⟨hi4, H⟩ := H
      refine g_iast (pc' := 40) rfl rfl rfl rfl rfl rfl hi4 ?_
      refine g_psh (pc' := 41) (v' := .int 0) rfl (congrArg Value.int kc_i0) ?_
      exact g_reti rfl rfl H
    · replace H := H.2 hc
      refine g_s (pc' := 22) rfl ?_
      refine g_getf (pc' := 25) (v := .ref 1005) rfl rfl rfl rfl rfl ?_
      refine g_s (pc' := 26) rfl ?_
      obtain ⟨hi5, H⟩ := H
      refine g_iald (pc' := 27) rfl rfl rfl rfl rfl (Or.inl rfl) hi5 ?_
      refine g_s (pc' := 28) rfl ?_
      refine g_iceq (pc' := 31) rfl rfl (fun hc => ?_) (fun hc => ?_)
      · replace H := H.1 hc
        refine g_s (pc' := 34) rfl ?_
        refine g_getf (pc' := 37) (v := .ref 1005) rfl rfl rfl rfl rfl ?_
        refine g_s (pc' := 38) rfl ?_
        refine g_s (pc' := 39) rfl ?_
        obtain ⟨hi6, H⟩ := H
        refine g_iast (pc' := 40) rfl rfl rfl rfl rfl rfl hi6 ?_
        refine g_psh (pc' := 41) (v' := .int 0) rfl (congrArg Value.int kc_i0) ?_
        exact g_reti rfl rfl H
      · replace H := H.2 hc
        refine g_psh (pc' := 32) (v' := .int 5) rfl (congrArg Value.int kc_i5) ?_
        exact g_reti rfl rfl H
