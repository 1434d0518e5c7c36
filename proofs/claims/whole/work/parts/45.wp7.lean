/-! what is enough for a run from here, of each method: printed by gen_wp.py out of the table -/
set_option maxHeartbeats 4000000 in
theorem B_X7_begin_0 {d : Nat} {w : zm} {F : zm → Prop} (a1 : Int32)
    (H : zGo (d + 1) m_X7_begin 2 [.ref 1013, .int a1, .int (0 : Int32)] [] (yz w) (zKv F)) :
    zGo (d + 1) m_X7_begin 0 [.ref 1013, .int a1, zJ] [] (yz w) (zKv F) := by
  refine g_psh (pc' := 1) (v' := .int 0) rfl (congrArg Value.int kc_i0) ?_
  refine g_ist (k := 2) (pc' := 2) (ls' := [.ref 1013, .int a1, .int (0 : Int32)]) rfl rfl rfl rfl (zst1_of rfl (Or.inr rfl) rfl) ?_
  exact H
set_option maxHeartbeats 4000000 in
theorem B_X7_begin_2 {d : Nat} {w : zm} {F : zm → Prop} (a1 : Int32) (a2 : Int32)
    (H : ((a2 < (16 : Int32) → (zin a2 16) ∧ zGo (d + 1) m_X7_begin 2 [.ref 1013, .int a1, .int (a2 + 1)] [] (yz (yuA w 1014 (Int32.toNatClampNeg a2) a2)) (zKv F)) ∧ (¬ a2 < (16 : Int32) → zGo (d + 1) m_X7_begin 23 [.ref 1013, .int a1, .int (0 : Int32)] [] (yz w) (zKv F)))) :
    zGo (d + 1) m_X7_begin 2 [.ref 1013, .int a1, .int a2] [] (yz w) (zKv F) := by
  refine g_s (pc' := 3) rfl ?_
  refine g_psh (pc' := 5) (v' := .int 16) rfl (congrArg Value.int kc_b16) ?_
  refine g_icge (pc' := 8) rfl rfl (fun hc => ?_) (fun hc => ?_)
  · replace H := H.1 hc
    refine g_s (pc' := 9) rfl ?_
    refine g_getf (pc' := 12) (v := .ref 1014) rfl rfl rfl rfl rfl ?_
    refine g_s (pc' := 13) rfl ?_
    refine g_s (pc' := 14) rfl ?_
    obtain ⟨hi1, H⟩ := H
    refine g_iast (pc' := 15) rfl rfl rfl rfl rfl rfl hi1 ?_
    refine g_inc (pc' := 18) (ls' := [.ref 1013, .int a1, .int (a2 + 1)]) rfl rfl rfl kc_i1 (zst1_of rfl (Or.inr rfl) rfl) ?_
    refine g_s (pc' := 2) rfl ?_
    exact H
  · replace H := H.2 hc
    refine g_psh (pc' := 22) (v' := .int 0) rfl (congrArg Value.int kc_i0) ?_
    refine g_ist (k := 2) (pc' := 23) (ls' := [.ref 1013, .int a1, .int (0 : Int32)]) rfl rfl rfl rfl (zst1_of rfl (Or.inr rfl) rfl) ?_
    exact H
set_option maxHeartbeats 4000000 in
theorem B_X7_begin_23 {d : Nat} {w : zm} {F : zm → Prop} (a1 : Int32) (a2 : Int32)
    (H : ((a2 < (16 : Int32) → (zin a2 16) ∧ zGo (d + 1) m_X7_begin 23 [.ref 1013, .int a1, .int (a2 + 1)] [] (yz (yuA w 1016 (Int32.toNatClampNeg a2) ((16 : Int32) + a2))) (zKv F)) ∧ (¬ a2 < (16 : Int32) → zGo d m_J7_fill_53178 0 [.ref 1017, .int (-1 : Int32), zJ, zJ] [] (yz w) (zKv fun w2 => zGo d m_J7_fill_53178 0 [.ref 1021, .int (0 : Int32), zJ, zJ] [] (yz w2) (zKv fun w3 => F (yuI (yuI (yuI w3 1015 1 a1) 1013 8 (32 : Int32)) 1013 9 (32 : Int32))))))) :
    zGo (d + 1) m_X7_begin 23 [.ref 1013, .int a1, .int a2] [] (yz w) (zKv F) := by
  refine g_s (pc' := 24) rfl ?_
  refine g_psh (pc' := 26) (v' := .int 16) rfl (congrArg Value.int kc_b16) ?_
  refine g_icge (pc' := 29) rfl rfl (fun hc => ?_) (fun hc => ?_)
  · replace H := H.1 hc
    refine g_s (pc' := 30) rfl ?_
    refine g_getf (pc' := 33) (v := .ref 1015) rfl rfl rfl rfl rfl ?_
    refine g_getf (pc' := 36) (v := .ref 1016) rfl rfl rfl rfl rfl ?_
    refine g_s (pc' := 37) rfl ?_
    refine g_psh (pc' := 39) (v' := .int 16) rfl (congrArg Value.int kc_b16) ?_
    refine g_s (pc' := 40) rfl ?_
    refine g_s (pc' := 41) (st' := [.int ((16 : Int32) + a2), .int a2, .ref 1016]) rfl ?_
    obtain ⟨hi1, H⟩ := H
    refine g_iast (pc' := 42) rfl rfl rfl rfl rfl rfl hi1 ?_
    refine g_inc (pc' := 45) (ls' := [.ref 1013, .int a1, .int (a2 + 1)]) rfl rfl rfl kc_i1 (zst1_of rfl (Or.inr rfl) rfl) ?_
    refine g_s (pc' := 23) rfl ?_
    exact H
  · replace H := H.2 hc
    refine g_s (pc' := 49) rfl ?_
    refine g_getf (pc' := 52) (v := .ref 1017) rfl rfl rfl rfl rfl ?_
    refine g_psh (pc' := 53) (v' := .int (-1)) rfl (congrArg Value.int kc_im1) ?_
    refine g_callv (a := m_J7_fill_53178) (as := [.ref 1017, .int (-1 : Int32)]) (rest := []) (ls0 := [.ref 1017, .int (-1 : Int32), zJ, zJ]) (pc' := 56) (t_stat rfl (Or.inl rfl) rfl rfl rfl rfl) rfl rfl rfl ?_
    refine zGo.mono H (zKv_mono ?_)
    intro w2 H
    refine g_s (pc' := 57) rfl ?_
    refine g_getf (pc' := 60) (v := .ref 1021) rfl rfl rfl rfl rfl ?_
    refine g_psh (pc' := 61) (v' := .int 0) rfl (congrArg Value.int kc_i0) ?_
    refine g_callv (a := m_J7_fill_53178) (as := [.ref 1021, .int (0 : Int32)]) (rest := []) (ls0 := [.ref 1021, .int (0 : Int32), zJ, zJ]) (pc' := 64) (t_stat rfl (Or.inl rfl) rfl rfl rfl rfl) rfl rfl rfl ?_
    refine zGo.mono H (zKv_mono ?_)
    intro w3 H
    refine g_s (pc' := 65) rfl ?_
    refine g_getf (pc' := 68) (v := .ref 1015) rfl rfl rfl rfl rfl ?_
    refine g_s (pc' := 69) rfl ?_
    refine g_putI (pc' := 72) rfl rfl rfl rfl rfl rfl (fun _ => rfl) ?_
    refine g_s (pc' := 73) rfl ?_
    refine g_psh (pc' := 75) (v' := .int 32) rfl (congrArg Value.int kc_b32) ?_
    refine g_putI (pc' := 78) rfl rfl rfl rfl rfl rfl (fun _ => rfl) ?_
    refine g_s (pc' := 79) rfl ?_
    refine g_psh (pc' := 81) (v' := .int 32) rfl (congrArg Value.int kc_b32) ?_
    refine g_putI (pc' := 84) rfl rfl rfl rfl rfl rfl (fun _ => rfl) ?_
    exact g_retv rfl rfl H
set_option maxHeartbeats 4000000 in
theorem B_X7_constant_0 {d : Nat} {w : zm} {F : Int32 → zm → Prop} (a1 : Int32)
    (H : zGo d m_X7_made 0 [.ref 1013, .int (1 : Int32), .int a1, .int (-1 : Int32), .int (32 : Int32), zJ] [] (yz w) (zKi fun v2 w1 => ((v2 = (-1 : Int32) → zGo d m_X7_make 0 [.ref 1013, .int (1 : Int32), .int a1, .int (-1 : Int32)] [] (yz w1) (zKi fun v4 w3 => F v4 w3)) ∧ (¬ v2 = (-1 : Int32) → F v2 w1)))) :
    zGo (d + 1) m_X7_constant 0 [.ref 1013, .int a1, zJ] [] (yz w) (zKi F) := by
  refine g_s (pc' := 1) rfl ?_
  refine g_psh (pc' := 2) (v' := .int 1) rfl (congrArg Value.int kc_i1) ?_
  refine g_s (pc' := 3) rfl ?_
  refine g_psh (pc' := 4) (v' := .int (-1)) rfl (congrArg Value.int kc_im1) ?_
  refine g_psh (pc' := 6) (v' := .int 32) rfl (congrArg Value.int kc_b32) ?_
  refine g_calli (a := m_X7_made) (as := [.ref 1013, .int (1 : Int32), .int a1, .int (-1 : Int32), .int (32 : Int32)]) (rest := []) (ls0 := [.ref 1013, .int (1 : Int32), .int a1, .int (-1 : Int32), .int (32 : Int32), zJ]) (pc' := 9) (t_virt rfl rfl rfl rfl rfl rfl) rfl rfl rfl ?_
  refine zGo.mono H (zKi_mono ?_)
  intro v2 w1 H
  refine g_ist (k := 2) (pc' := 10) (ls' := [.ref 1013, .int a1, .int v2]) rfl rfl rfl rfl (zst1_of rfl (Or.inr rfl) rfl) ?_
  refine g_s (pc' := 11) rfl ?_
  refine g_psh (pc' := 12) (v' := .int (-1)) rfl (congrArg Value.int kc_im1) ?_
  refine g_iceq (pc' := 15) rfl rfl (fun hc => ?_) (fun hc => ?_)
  · replace H := H.1 hc
    refine g_s (pc' := 20) rfl ?_
    refine g_psh (pc' := 21) (v' := .int 1) rfl (congrArg Value.int kc_i1) ?_
    refine g_s (pc' := 22) rfl ?_
    refine g_psh (pc' := 23) (v' := .int (-1)) rfl (congrArg Value.int kc_im1) ?_
    refine g_calli (a := m_X7_make) (as := [.ref 1013, .int (1 : Int32), .int a1, .int (-1 : Int32)]) (rest := []) (ls0 := [.ref 1013, .int (1 : Int32), .int a1, .int (-1 : Int32)]) (pc' := 26) (t_virt rfl rfl rfl rfl rfl rfl) rfl rfl rfl ?_
    refine zGo.mono H (zKi_mono ?_)
    intro v4 w3 H
    exact g_reti rfl rfl H
  · replace H := H.2 hc
    refine g_s (pc' := 16) rfl ?_
    refine g_s (pc' := 26) rfl ?_
    exact g_reti rfl rfl H
set_option maxHeartbeats 4000000 in
theorem B_X7_find_0 {d : Nat} {w : zm} {F : zm → Prop} 
    (H : zGo d m_X7_begin 0 [.ref 1013, .int (yI w 1026 5), zJ] [] (yz w) (zKv fun w1 => zGo (d + 1) m_X7_find 10 [.ref 1013, .ref 1026, .int (0 : Int32)] [] (yz w1) (zKv F))) :
    zGo (d + 1) m_X7_find 0 [.ref 1013, .ref 1026, zJ] [] (yz w) (zKv F) := by
  refine g_s (pc' := 1) rfl ?_
  refine g_s (pc' := 2) rfl ?_
  refine g_getf (pc' := 5) (v := .int (yI w 1026 5)) rfl rfl rfl rfl rfl ?_
  refine g_callv (a := m_X7_begin) (as := [.ref 1013, .int (yI w 1026 5)]) (rest := []) (ls0 := [.ref 1013, .int (yI w 1026 5), zJ]) (pc' := 8) (t_virt rfl rfl rfl rfl rfl rfl) rfl rfl rfl ?_
  refine zGo.mono H (zKv_mono ?_)
  intro w1 H
  refine g_psh (pc' := 9) (v' := .int 0) rfl (congrArg Value.int kc_i0) ?_
  refine g_ist (k := 2) (pc' := 10) (ls' := [.ref 1013, .ref 1026, .int (0 : Int32)]) rfl rfl rfl rfl (zst1_of rfl (Or.inr rfl) rfl) ?_
  exact H
set_option maxHeartbeats 4000000 in
theorem B_X7_find_10 {d : Nat} {w : zm} {F : zm → Prop} (a2 : Int32)
    (H : ((a2 < (yI w 1026 4) → ((a2 < (48 : Int32) → zGo d m_X7_lookAt 0 [.ref 1013, .ref 1026, .int a2, zJ, zJ, zJ] [] (yz w) (zKv fun w1 => zGo (d + 1) m_X7_find 10 [.ref 1013, .ref 1026, .int (a2 + 1)] [] (yz w1) (zKv F))) ∧ (¬ a2 < (48 : Int32) → F w))) ∧ (¬ a2 < (yI w 1026 4) → F w))) :
    zGo (d + 1) m_X7_find 10 [.ref 1013, .ref 1026, .int a2] [] (yz w) (zKv F) := by
  refine g_s (pc' := 11) rfl ?_
  refine g_s (pc' := 12) rfl ?_
  refine g_getf (pc' := 15) (v := .int (yI w 1026 4)) rfl rfl rfl rfl rfl ?_
  refine g_icge (pc' := 18) rfl rfl (fun hc => ?_) (fun hc => ?_)
  · replace H := H.1 hc
    refine g_s (pc' := 19) rfl ?_
    refine g_psh (pc' := 21) (v' := .int 48) rfl (congrArg Value.int kc_b48) ?_
    refine g_icge (pc' := 24) rfl rfl (fun hc => ?_) (fun hc => ?_)
    · replace H := H.1 hc
      refine g_s (pc' := 25) rfl ?_
      refine g_s (pc' := 26) rfl ?_
      refine g_s (pc' := 27) rfl ?_
      refine g_callv (a := m_X7_lookAt) (as := [.ref 1013, .ref 1026, .int a2]) (rest := []) (ls0 := [.ref 1013, .ref 1026, .int a2, zJ, zJ, zJ]) (pc' := 30) (t_virt rfl rfl rfl rfl rfl rfl) rfl rfl rfl ?_
      refine zGo.mono H (zKv_mono ?_)
      intro w1 H
      refine g_inc (pc' := 33) (ls' := [.ref 1013, .ref 1026, .int (a2 + 1)]) rfl rfl rfl kc_i1 (zst1_of rfl (Or.inr rfl) rfl) ?_
      refine g_s (pc' := 10) rfl ?_
      exact H
    · replace H := H.2 hc
      exact g_retv rfl rfl H
  · replace H := H.2 hc
    exact g_retv rfl rfl H
set_option maxHeartbeats 4000000 in
theorem B_X7_guardOn_0 {d : Nat} {w : zm} {F : zm → Prop} (a1 : Int32) (a3 : Int32)
    (H : ((a1 < 0 → F w) ∧ (¬ a1 < 0 → ((a1 < (80 : Int32) → zGo d m_X7_isConstant 0 [.ref 1013, .int a1] [] (yz w) (zKi fun v2 w1 => ((v2 = 0 → (zin a1 80) ∧ (((yA w1 1021 (Int32.toNatClampNeg a1)) = (1 : Int32) → F w1) ∧ (¬ (yA w1 1021 (Int32.toNatClampNeg a1)) = (1 : Int32) → (zin a1 80) ∧ zGo d m_X2_addGuard 0 [.ref 1026, .int a3] [] (yz (yuA w1 1021 (Int32.toNatClampNeg a1) (1 : Int32))) (zKv fun w5 => F w5)))) ∧ (¬ v2 = 0 → F w1)))) ∧ (¬ a1 < (80 : Int32) → F w))))) :
    zGo (d + 1) m_X7_guardOn 0 [.ref 1013, .int a1, .ref 1026, .int a3] [] (yz w) (zKv F) := by
  refine g_s (pc' := 1) rfl ?_
  refine g_iflt (pc' := 4) rfl rfl (fun hc => ?_) (fun hc => ?_)
  · replace H := H.1 hc
    exact g_retv rfl rfl H
  · replace H := H.2 hc
    refine g_s (pc' := 5) rfl ?_
    refine g_psh (pc' := 7) (v' := .int 80) rfl (congrArg Value.int kc_b80) ?_
    refine g_icge (pc' := 10) rfl rfl (fun hc => ?_) (fun hc => ?_)
    · replace H := H.1 hc
      refine g_s (pc' := 11) rfl ?_
      refine g_s (pc' := 12) rfl ?_
      refine g_calli (a := m_X7_isConstant) (as := [.ref 1013, .int a1]) (rest := []) (ls0 := [.ref 1013, .int a1]) (pc' := 15) (t_virt rfl rfl rfl rfl rfl rfl) rfl rfl rfl ?_
      refine zGo.mono H (zKi_mono ?_)
      intro v2 w1 H
      refine g_ifne (pc' := 18) rfl rfl (fun hc => ?_) (fun hc => ?_)
      · replace H := H.1 hc
        refine g_s (pc' := 19) rfl ?_
        refine g_getf (pc' := 22) (v := .ref 1021) rfl rfl rfl rfl rfl ?_
        refine g_s (pc' := 23) rfl ?_
        obtain ⟨hi3, H⟩ := H
        refine g_iald (pc' := 24) rfl rfl rfl rfl rfl (Or.inl rfl) hi3 ?_
        refine g_psh (pc' := 25) (v' := .int 1) rfl (congrArg Value.int kc_i1) ?_
        refine g_icne (pc' := 28) rfl rfl (fun hc => ?_) (fun hc => ?_)
        · replace H := H.1 hc
          exact g_retv rfl rfl H
        · replace H := H.2 hc
          refine g_s (pc' := 30) rfl ?_
          refine g_getf (pc' := 33) (v := .ref 1021) rfl rfl rfl rfl rfl ?_
          refine g_s (pc' := 34) rfl ?_
          refine g_psh (pc' := 35) (v' := .int 1) rfl (congrArg Value.int kc_i1) ?_
          obtain ⟨hi4, H⟩ := H
          refine g_iast (pc' := 36) rfl rfl rfl rfl rfl rfl hi4 ?_
          refine g_s (pc' := 37) rfl ?_
          refine g_s (pc' := 38) rfl ?_
          refine g_callv (a := m_X2_addGuard) (as := [.ref 1026, .int a3]) (rest := []) (ls0 := [.ref 1026, .int a3]) (pc' := 41) (t_virt rfl rfl rfl rfl rfl rfl) rfl rfl rfl ?_
          refine zGo.mono H (zKv_mono ?_)
          intro w5 H
          exact g_retv rfl rfl H
      · replace H := H.2 hc
        exact g_retv rfl rfl H
    · replace H := H.2 hc
      exact g_retv rfl rfl H
set_option maxHeartbeats 4000000 in
theorem B_X7_isConstant_0 {d : Nat} {w : zm} {F : Int32 → zm → Prop} (a1 : Int32)
    (H : ((a1 < 0 → F (0 : Int32) w) ∧ (¬ a1 < 0 → ((a1 < (80 : Int32) → (zin a1 80) ∧ (((yA w 1018 (Int32.toNatClampNeg a1)) = (1 : Int32) → F (1 : Int32) w) ∧ (¬ (yA w 1018 (Int32.toNatClampNeg a1)) = (1 : Int32) → F (0 : Int32) w))) ∧ (¬ a1 < (80 : Int32) → F (0 : Int32) w))))) :
    zGo d m_X7_isConstant 0 [.ref 1013, .int a1] [] (yz w) (zKi F) := by
  refine g_s (pc' := 1) rfl ?_
  refine g_iflt (pc' := 4) rfl rfl (fun hc => ?_) (fun hc => ?_)
  · replace H := H.1 hc
    refine g_psh (pc' := 25) (v' := .int 0) rfl (congrArg Value.int kc_i0) ?_
    exact g_reti rfl (zbool _ (Or.inl rfl)) H
  · replace H := H.2 hc
    refine g_s (pc' := 5) rfl ?_
    refine g_psh (pc' := 7) (v' := .int 80) rfl (congrArg Value.int kc_b80) ?_
    refine g_icge (pc' := 10) rfl rfl (fun hc => ?_) (fun hc => ?_)
    · replace H := H.1 hc
      refine g_s (pc' := 11) rfl ?_
      refine g_getf (pc' := 14) (v := .ref 1018) rfl rfl rfl rfl rfl ?_
      refine g_s (pc' := 15) rfl ?_
      obtain ⟨hi1, H⟩ := H
      refine g_iald (pc' := 16) rfl rfl rfl rfl rfl (Or.inl rfl) hi1 ?_
      refine g_psh (pc' := 17) (v' := .int 1) rfl (congrArg Value.int kc_i1) ?_
      refine g_icne (pc' := 20) rfl rfl (fun hc => ?_) (fun hc => ?_)
      · replace H := H.1 hc
        refine g_psh (pc' := 21) (v' := .int 1) rfl (congrArg Value.int kc_i1) ?_
        refine g_s (pc' := 25) rfl ?_
        exact g_reti rfl (zbool _ (Or.inr rfl)) H
      · replace H := H.2 hc
        refine g_psh (pc' := 25) (v' := .int 0) rfl (congrArg Value.int kc_i0) ?_
        exact g_reti rfl (zbool _ (Or.inl rfl)) H
    · replace H := H.2 hc
      refine g_psh (pc' := 25) (v' := .int 0) rfl (congrArg Value.int kc_i0) ?_
      exact g_reti rfl (zbool _ (Or.inl rfl)) H
set_option maxHeartbeats 4000000 in
theorem B_X7_lookAt_0 {d : Nat} {w : zm} {F : zm → Prop} (a2 : Int32)
    (H : (zin a2 48) ∧ zGo d m_X0_op 0 [.ref 1003, .int (yA w 1027 (Int32.toNatClampNeg a2))] [] (yz w) (zKi fun v3 w2 => (zin a2 48) ∧ zGo d m_X0_argument 0 [.ref 1003, .int (yA w2 1027 (Int32.toNatClampNeg a2))] [] (yz w2) (zKi fun v6 w5 => (((v3.toInt < 1 ∨ 26 < v3.toInt ∨ v3.toInt = 4 ∨ v3.toInt = 5 ∨ v3.toInt = 6 ∨ v3.toInt = 7 ∨ v3.toInt = 8 ∨ v3.toInt = 9 ∨ v3.toInt = 10 ∨ v3.toInt = 11 ∨ v3.toInt = 12 ∨ v3.toInt = 13 ∨ v3.toInt = 14 ∨ v3.toInt = 15 ∨ v3.toInt = 16 ∨ v3.toInt = 17 ∨ v3.toInt = 21) → ((v3 < (4 : Int32) → F w5) ∧ (¬ v3 < (4 : Int32) → (((17 : Int32) < v3 → F w5) ∧ (¬ (17 : Int32) < v3 → zGo d m_X7_work 0 [.ref 1013, .int v3, .ref 1026, .int a2, zJ, zJ, zJ] [] (yz w5) (zKv fun w7 => F w7)))))) ∧ ((v3.toInt = 1) → zGo d m_X7_constant 0 [.ref 1013, .int v6, zJ] [] (yz w5) (zKi fun v9 w8 => zGo d m_X3_push 0 [.ref 1015, .int v9] [] (yz w8) (zKv fun w10 => F w10))) ∧ ((v3.toInt = 2) → ((v6 < 0 → zGo d m_X3_push 0 [.ref 1015, .int (0 : Int32)] [] (yz w5) (zKv fun w11 => F w11)) ∧ (¬ v6 < 0 → ((v6 < (16 : Int32) → (zin v6 16) ∧ zGo d m_X3_push 0 [.ref 1015, .int (yA w5 1014 (Int32.toNatClampNeg v6))] [] (yz w5) (zKv fun w13 => F w13)) ∧ (¬ v6 < (16 : Int32) → zGo d m_X3_push 0 [.ref 1015, .int (0 : Int32)] [] (yz w5) (zKv fun w14 => F w14)))))) ∧ ((v3.toInt = 3) → zGo d m_X3_pop 0 [.ref 1015] [] (yz w5) (zKi fun v16 w15 => zGo d m_X7_store 0 [.ref 1013, .int v6, .int v16] [] (yz w15) (zKv fun w17 => F w17))) ∧ ((v3.toInt = 18) → zGo d m_X3_top 0 [.ref 1015] [] (yz w5) (zKi fun v19 w18 => zGo d m_X3_push 0 [.ref 1015, .int v19] [] (yz w18) (zKv fun w20 => F w20))) ∧ ((v3.toInt = 19) → zGo d m_X3_swap 0 [.ref 1015, zJ] [] (yz w5) (zKv fun w21 => F w21)) ∧ ((v3.toInt = 20 ∨ v3.toInt = 24) → zGo d m_X3_pop 0 [.ref 1015] [] (yz w5) (zKi fun v23 w22 => F w22)) ∧ ((v3.toInt = 22 ∨ v3.toInt = 23) → zGo d m_X3_pop 0 [.ref 1015] [] (yz w5) (zKi fun v25 w24 => zGo d m_X7_guardOn 0 [.ref 1013, .int v25, .ref 1026, .int a2] [] (yz w24) (zKv fun w26 => F w26))) ∧ ((v3.toInt = 25) → zGo d m_X3_pop 0 [.ref 1015] [] (yz w5) (zKi fun v28 w27 => zGo d m_X7_peeked 0 [.ref 1013, .int v28, .ref 1026, zJ] [] (yz w27) (zKi fun v30 w29 => zGo d m_X3_push 0 [.ref 1015, .int v30] [] (yz w29) (zKv fun w31 => F w31)))) ∧ ((v3.toInt = 26) → zGo d m_X3_pop 0 [.ref 1015] [] (yz w5) (zKi fun v33 w32 => zGo d m_X3_pop 0 [.ref 1015] [] (yz w32) (zKi fun v35 w34 => zGo d m_X7_notePoke 0 [.ref 1013, .int v35, .int v33] [] (yz w34) (zKv fun w36 => F w36)))))))) :
    zGo (d + 1) m_X7_lookAt 0 [.ref 1013, .ref 1026, .int a2, zJ, zJ, zJ] [] (yz w) (zKv F) := by
  refine g_s (pc' := 1) rfl ?_
  refine g_getf (pc' := 4) (v := .ref 1003) rfl rfl rfl rfl rfl ?_
  refine g_s (pc' := 5) rfl ?_
  refine g_getf (pc' := 8) (v := .ref 1027) rfl rfl rfl rfl rfl ?_
  refine g_s (pc' := 9) rfl ?_
  obtain ⟨hi1, H⟩ := H
  refine g_iald (pc' := 10) rfl rfl rfl rfl rfl (Or.inl rfl) hi1 ?_
  refine g_calli (a := m_X0_op) (as := [.ref 1003, .int (yA w 1027 (Int32.toNatClampNeg a2))]) (rest := []) (ls0 := [.ref 1003, .int (yA w 1027 (Int32.toNatClampNeg a2))]) (pc' := 13) (t_virt rfl rfl rfl rfl rfl rfl) rfl rfl rfl ?_
  refine zGo.mono H (zKi_mono ?_)
  intro v3 w2 H
  refine g_ist (k := 3) (pc' := 14) (ls' := [.ref 1013, .ref 1026, .int a2, .int v3, zJ, zJ]) rfl rfl rfl rfl (zst1_of rfl (Or.inr rfl) rfl) ?_
  refine g_s (pc' := 15) rfl ?_
  refine g_getf (pc' := 18) (v := .ref 1003) rfl rfl rfl rfl rfl ?_
  refine g_s (pc' := 19) rfl ?_
  refine g_getf (pc' := 22) (v := .ref 1027) rfl rfl rfl rfl rfl ?_
  refine g_s (pc' := 23) rfl ?_
  obtain ⟨hi4, H⟩ := H
  refine g_iald (pc' := 24) rfl rfl rfl rfl rfl (Or.inl rfl) hi4 ?_
  refine g_calli (a := m_X0_argument) (as := [.ref 1003, .int (yA w2 1027 (Int32.toNatClampNeg a2))]) (rest := []) (ls0 := [.ref 1003, .int (yA w2 1027 (Int32.toNatClampNeg a2))]) (pc' := 27) (t_virt rfl rfl rfl rfl rfl rfl) rfl rfl rfl ?_
  refine zGo.mono H (zKi_mono ?_)
  intro v6 w5 H
  refine g_ist (k := 4) (pc' := 29) (ls' := [.ref 1013, .ref 1026, .int a2, .int v3, .int v6, zJ]) rfl rfl rfl rfl (zst1_of rfl (Or.inr rfl) rfl) ?_
  refine g_s (pc' := 30) rfl ?_
  refine g_tsw rfl (fun hx => ?_) (fun j hx hy => ?_)
  · replace H := H.1 (by omega)
    show zGo (d + 1) m_X7_lookAt 314 [.ref 1013, .ref 1026, .int a2, .int v3, .int v6, zJ] [] (yz w5) (zKv F)
    refine g_s (pc' := 315) rfl ?_
    refine g_psh (pc' := 316) (v' := .int 4) rfl (congrArg Value.int kc_i4) ?_
    refine g_iclt (pc' := 319) rfl rfl (fun hc => ?_) (fun hc => ?_)
    · replace H := H.1 hc
      exact g_retv rfl rfl H
    · replace H := H.2 hc
      refine g_s (pc' := 320) rfl ?_
      refine g_psh (pc' := 322) (v' := .int 17) rfl (congrArg Value.int kc_b17) ?_
      refine g_icgt (pc' := 325) rfl rfl (fun hc => ?_) (fun hc => ?_)
      · replace H := H.1 hc
        exact g_retv rfl rfl H
      · replace H := H.2 hc
        refine g_s (pc' := 326) rfl ?_
        refine g_s (pc' := 327) rfl ?_
        refine g_s (pc' := 328) rfl ?_
        refine g_s (pc' := 329) rfl ?_
        refine g_callv (a := m_X7_work) (as := [.ref 1013, .int v3, .ref 1026, .int a2]) (rest := []) (ls0 := [.ref 1013, .int v3, .ref 1026, .int a2, zJ, zJ, zJ]) (pc' := 332) (t_virt rfl rfl rfl rfl rfl rfl) rfl rfl rfl ?_
        refine zGo.mono H (zKv_mono ?_)
        intro w7 H
        exact g_retv rfl rfl H
  · have hj : j < 26 := by omega
    match j, hj, hx with
    | 0, _, hx =>
      refine ⟨118, rfl, ?_⟩
      replace H := H.2.1 (by omega)
      show zGo (d + 1) m_X7_lookAt 148 [.ref 1013, .ref 1026, .int a2, .int v3, .int v6, zJ] [] (yz w5) (zKv F)
      refine g_s (pc' := 149) rfl ?_
      refine g_getf (pc' := 152) (v := .ref 1015) rfl rfl rfl rfl rfl ?_
      refine g_s (pc' := 153) rfl ?_
      refine g_s (pc' := 155) rfl ?_
      refine g_calli (a := m_X7_constant) (as := [.ref 1013, .int v6]) (rest := [.ref 1015]) (ls0 := [.ref 1013, .int v6, zJ]) (pc' := 158) (t_virt rfl rfl rfl rfl rfl rfl) rfl rfl rfl ?_
      refine zGo.mono H (zKi_mono ?_)
      intro v9 w8 H
      refine g_callv (a := m_X3_push) (as := [.ref 1015, .int v9]) (rest := []) (ls0 := [.ref 1015, .int v9]) (pc' := 161) (t_virt rfl rfl rfl rfl rfl rfl) rfl rfl rfl ?_
      refine zGo.mono H (zKv_mono ?_)
      intro w10 H
      refine g_s (pc' := 332) rfl ?_
      exact g_retv rfl rfl H
    | 1, _, hx =>
      refine ⟨134, rfl, ?_⟩
      replace H := H.2.2.1 (by omega)
      show zGo (d + 1) m_X7_lookAt 164 [.ref 1013, .ref 1026, .int a2, .int v3, .int v6, zJ] [] (yz w5) (zKv F)
      refine g_s (pc' := 165) rfl ?_
      refine g_getf (pc' := 168) (v := .ref 1015) rfl rfl rfl rfl rfl ?_
      refine g_s (pc' := 170) rfl ?_
      refine g_iflt (pc' := 173) rfl rfl (fun hc => ?_) (fun hc => ?_)
      · replace H := H.1 hc
        refine g_psh (pc' := 191) (v' := .int 0) rfl (congrArg Value.int kc_i0) ?_
        refine g_callv (a := m_X3_push) (as := [.ref 1015, .int (0 : Int32)]) (rest := []) (ls0 := [.ref 1015, .int (0 : Int32)]) (pc' := 194) (t_virt rfl rfl rfl rfl rfl rfl) rfl rfl rfl ?_
        refine zGo.mono H (zKv_mono ?_)
        intro w11 H
        refine g_s (pc' := 332) rfl ?_
        exact g_retv rfl rfl H
      · replace H := H.2 hc
        refine g_s (pc' := 175) rfl ?_
        refine g_psh (pc' := 177) (v' := .int 16) rfl (congrArg Value.int kc_b16) ?_
        refine g_icge (pc' := 180) rfl rfl (fun hc => ?_) (fun hc => ?_)
        · replace H := H.1 hc
          refine g_s (pc' := 181) rfl ?_
          refine g_getf (pc' := 184) (v := .ref 1014) rfl rfl rfl rfl rfl ?_
          refine g_s (pc' := 186) rfl ?_
          obtain ⟨hi12, H⟩ := H
          refine g_iald (pc' := 187) rfl rfl rfl rfl rfl (Or.inl rfl) hi12 ?_
          refine g_s (pc' := 191) rfl ?_
          refine g_callv (a := m_X3_push) (as := [.ref 1015, .int (yA w5 1014 (Int32.toNatClampNeg v6))]) (rest := []) (ls0 := [.ref 1015, .int (yA w5 1014 (Int32.toNatClampNeg v6))]) (pc' := 194) (t_virt rfl rfl rfl rfl rfl rfl) rfl rfl rfl ?_
          refine zGo.mono H (zKv_mono ?_)
          intro w13 H
          refine g_s (pc' := 332) rfl ?_
          exact g_retv rfl rfl H
        · replace H := H.2 hc
          refine g_psh (pc' := 191) (v' := .int 0) rfl (congrArg Value.int kc_i0) ?_
          refine g_callv (a := m_X3_push) (as := [.ref 1015, .int (0 : Int32)]) (rest := []) (ls0 := [.ref 1015, .int (0 : Int32)]) (pc' := 194) (t_virt rfl rfl rfl rfl rfl rfl) rfl rfl rfl ?_
          refine zGo.mono H (zKv_mono ?_)
          intro w14 H
          refine g_s (pc' := 332) rfl ?_
          exact g_retv rfl rfl H
    | 2, _, hx =>
      refine ⟨167, rfl, ?_⟩
      replace H := H.2.2.2.1 (by omega)
      show zGo (d + 1) m_X7_lookAt 197 [.ref 1013, .ref 1026, .int a2, .int v3, .int v6, zJ] [] (yz w5) (zKv F)
      refine g_s (pc' := 198) rfl ?_
      refine g_s (pc' := 200) rfl ?_
      refine g_s (pc' := 201) rfl ?_
      refine g_getf (pc' := 204) (v := .ref 1015) rfl rfl rfl rfl rfl ?_
      refine g_calli (a := m_X3_pop) (as := [.ref 1015]) (rest := [.int v6, .ref 1013]) (ls0 := [.ref 1015]) (pc' := 207) (t_virt rfl rfl rfl rfl rfl rfl) rfl rfl rfl ?_
      refine zGo.mono H (zKi_mono ?_)
      intro v16 w15 H
      refine g_callv (a := m_X7_store) (as := [.ref 1013, .int v6, .int v16]) (rest := []) (ls0 := [.ref 1013, .int v6, .int v16]) (pc' := 210) (t_virt rfl rfl rfl rfl rfl rfl) rfl rfl rfl ?_
      refine zGo.mono H (zKv_mono ?_)
      intro w17 H
      refine g_s (pc' := 332) rfl ?_
      exact g_retv rfl rfl H
    | 3, _, hx =>
      refine ⟨284, rfl, ?_⟩
      replace H := H.1 (by omega)
      show zGo (d + 1) m_X7_lookAt 314 [.ref 1013, .ref 1026, .int a2, .int v3, .int v6, zJ] [] (yz w5) (zKv F)
      refine g_s (pc' := 315) rfl ?_
      refine g_psh (pc' := 316) (v' := .int 4) rfl (congrArg Value.int kc_i4) ?_
      refine g_iclt (pc' := 319) rfl rfl (fun hc => ?_) (fun hc => ?_)
      · replace H := H.1 hc
        exact g_retv rfl rfl H
      · replace H := H.2 hc
        refine g_s (pc' := 320) rfl ?_
        refine g_psh (pc' := 322) (v' := .int 17) rfl (congrArg Value.int kc_b17) ?_
        refine g_icgt (pc' := 325) rfl rfl (fun hc => ?_) (fun hc => ?_)
        · replace H := H.1 hc
          exact g_retv rfl rfl H
        · replace H := H.2 hc
          refine g_s (pc' := 326) rfl ?_
          refine g_s (pc' := 327) rfl ?_
          refine g_s (pc' := 328) rfl ?_
          refine g_s (pc' := 329) rfl ?_
          refine g_callv (a := m_X7_work) (as := [.ref 1013, .int v3, .ref 1026, .int a2]) (rest := []) (ls0 := [.ref 1013, .int v3, .ref 1026, .int a2, zJ, zJ, zJ]) (pc' := 332) (t_virt rfl rfl rfl rfl rfl rfl) rfl rfl rfl ?_
          refine zGo.mono H (zKv_mono ?_)
          intro w7 H
          exact g_retv rfl rfl H
    | 4, _, hx =>
      refine ⟨284, rfl, ?_⟩
      replace H := H.1 (by omega)
      show zGo (d + 1) m_X7_lookAt 314 [.ref 1013, .ref 1026, .int a2, .int v3, .int v6, zJ] [] (yz w5) (zKv F)
      refine g_s (pc' := 315) rfl ?_
      refine g_psh (pc' := 316) (v' := .int 4) rfl (congrArg Value.int kc_i4) ?_
      refine g_iclt (pc' := 319) rfl rfl (fun hc => ?_) (fun hc => ?_)
      · replace H := H.1 hc
        exact g_retv rfl rfl H
      · replace H := H.2 hc
        refine g_s (pc' := 320) rfl ?_
        refine g_psh (pc' := 322) (v' := .int 17) rfl (congrArg Value.int kc_b17) ?_
        refine g_icgt (pc' := 325) rfl rfl (fun hc => ?_) (fun hc => ?_)
        · replace H := H.1 hc
          exact g_retv rfl rfl H
        · replace H := H.2 hc
          refine g_s (pc' := 326) rfl ?_
          refine g_s (pc' := 327) rfl ?_
          refine g_s (pc' := 328) rfl ?_
          refine g_s (pc' := 329) rfl ?_
          refine g_callv (a := m_X7_work) (as := [.ref 1013, .int v3, .ref 1026, .int a2]) (rest := []) (ls0 := [.ref 1013, .int v3, .ref 1026, .int a2, zJ, zJ, zJ]) (pc' := 332) (t_virt rfl rfl rfl rfl rfl rfl) rfl rfl rfl ?_
          refine zGo.mono H (zKv_mono ?_)
          intro w7 H
          exact g_retv rfl rfl H
    | 5, _, hx =>
      refine ⟨284, rfl, ?_⟩
      replace H := H.1 (by omega)
      show zGo (d + 1) m_X7_lookAt 314 [.ref 1013, .ref 1026, .int a2, .int v3, .int v6, zJ] [] (yz w5) (zKv F)
      refine g_s (pc' := 315) rfl ?_
      refine g_psh (pc' := 316) (v' := .int 4) rfl (congrArg Value.int kc_i4) ?_
      refine g_iclt (pc' := 319) rfl rfl (fun hc => ?_) (fun hc => ?_)
      · replace H := H.1 hc
        exact g_retv rfl rfl H
      · replace H := H.2 hc
        refine g_s (pc' := 320) rfl ?_
        refine g_psh (pc' := 322) (v' := .int 17) rfl (congrArg Value.int kc_b17) ?_
        refine g_icgt (pc' := 325) rfl rfl (fun hc => ?_) (fun hc => ?_)
        · replace H := H.1 hc
          exact g_retv rfl rfl H
        · replace H := H.2 hc
          refine g_s (pc' := 326) rfl ?_
          refine g_s (pc' := 327) rfl ?_
          refine g_s (pc' := 328) rfl ?_
          refine g_s (pc' := 329) rfl ?_
          refine g_callv (a := m_X7_work) (as := [.ref 1013, .int v3, .ref 1026, .int a2]) (rest := []) (ls0 := [.ref 1013, .int v3, .ref 1026, .int a2, zJ, zJ, zJ]) (pc' := 332) (t_virt rfl rfl rfl rfl rfl rfl) rfl rfl rfl ?_
          refine zGo.mono H (zKv_mono ?_)
          intro w7 H
          exact g_retv rfl rfl H
    | 6, _, hx =>
      refine ⟨284, rfl, ?_⟩
      replace H := H.1 (by omega)
      show zGo (d + 1) m_X7_lookAt 314 [.ref 1013, .ref 1026, .int a2, .int v3, .int v6, zJ] [] (yz w5) (zKv F)
      refine g_s (pc' := 315) rfl ?_
      refine g_psh (pc' := 316) (v' := .int 4) rfl (congrArg Value.int kc_i4) ?_
      refine g_iclt (pc' := 319) rfl rfl (fun hc => ?_) (fun hc => ?_)
      · replace H := H.1 hc
        exact g_retv rfl rfl H
      · replace H := H.2 hc
        refine g_s (pc' := 320) rfl ?_
        refine g_psh (pc' := 322) (v' := .int 17) rfl (congrArg Value.int kc_b17) ?_
        refine g_icgt (pc' := 325) rfl rfl (fun hc => ?_) (fun hc => ?_)
        · replace H := H.1 hc
          exact g_retv rfl rfl H
        · replace H := H.2 hc
          refine g_s (pc' := 326) rfl ?_
          refine g_s (pc' := 327) rfl ?_
          refine g_s (pc' := 328) rfl ?_
          refine g_s (pc' := 329) rfl ?_
          refine g_callv (a := m_X7_work) (as := [.ref 1013, .int v3, .ref 1026, .int a2]) (rest := []) (ls0 := [.ref 1013, .int v3, .ref 1026, .int a2, zJ, zJ, zJ]) (pc' := 332) (t_virt rfl rfl rfl rfl rfl rfl) rfl rfl rfl ?_
          refine zGo.mono H (zKv_mono ?_)
          intro w7 H
          exact g_retv rfl rfl H
    | 7, _, hx =>
      refine ⟨284, rfl, ?_⟩
      replace H := H.1 (by omega)
      show zGo (d + 1) m_X7_lookAt 314 [.ref 1013, .ref 1026, .int a2, .int v3, .int v6, zJ] [] (yz w5) (zKv F)
      refine g_s (pc' := 315) rfl ?_
      refine g_psh (pc' := 316) (v' := .int 4) rfl (congrArg Value.int kc_i4) ?_
      refine g_iclt (pc' := 319) rfl rfl (fun hc => ?_) (fun hc => ?_)
      · replace H := H.1 hc
        exact g_retv rfl rfl H
      · replace H := H.2 hc
        refine g_s (pc' := 320) rfl ?_
        refine g_psh (pc' := 322) (v' := .int 17) rfl (congrArg Value.int kc_b17) ?_
        refine g_icgt (pc' := 325) rfl rfl (fun hc => ?_) (fun hc => ?_)
        · replace H := H.1 hc
          exact g_retv rfl rfl H
        · replace H := H.2 hc
          refine g_s (pc' := 326) rfl ?_
          refine g_s (pc' := 327) rfl ?_
          refine g_s (pc' := 328) rfl ?_
          refine g_s (pc' := 329) rfl ?_
          refine g_callv (a := m_X7_work) (as := [.ref 1013, .int v3, .ref 1026, .int a2]) (rest := []) (ls0 := [.ref 1013, .int v3, .ref 1026, .int a2, zJ, zJ, zJ]) (pc' := 332) (t_virt rfl rfl rfl rfl rfl rfl) rfl rfl rfl ?_
          refine zGo.mono H (zKv_mono ?_)
          intro w7 H
          exact g_retv rfl rfl H
    | 8, _, hx =>
      refine ⟨284, rfl, ?_⟩
      replace H := H.1 (by omega)
      show zGo (d + 1) m_X7_lookAt 314 [.ref 1013, .ref 1026, .int a2, .int v3, .int v6, zJ] [] (yz w5) (zKv F)
      refine g_s (pc' := 315) rfl ?_
      refine g_psh (pc' := 316) (v' := .int 4) rfl (congrArg Value.int kc_i4) ?_
      refine g_iclt (pc' := 319) rfl rfl (fun hc => ?_) (fun hc => ?_)
      · replace H := H.1 hc
        exact g_retv rfl rfl H
      · replace H := H.2 hc
        refine g_s (pc' := 320) rfl ?_
        refine g_psh (pc' := 322) (v' := .int 17) rfl (congrArg Value.int kc_b17) ?_
        refine g_icgt (pc' := 325) rfl rfl (fun hc => ?_) (fun hc => ?_)
        · replace H := H.1 hc
          exact g_retv rfl rfl H
        · replace H := H.2 hc
          refine g_s (pc' := 326) rfl ?_
          refine g_s (pc' := 327) rfl ?_
          refine g_s (pc' := 328) rfl ?_
          refine g_s (pc' := 329) rfl ?_
          refine g_callv (a := m_X7_work) (as := [.ref 1013, .int v3, .ref 1026, .int a2]) (rest := []) (ls0 := [.ref 1013, .int v3, .ref 1026, .int a2, zJ, zJ, zJ]) (pc' := 332) (t_virt rfl rfl rfl rfl rfl rfl) rfl rfl rfl ?_
          refine zGo.mono H (zKv_mono ?_)
          intro w7 H
          exact g_retv rfl rfl H
    | 9, _, hx =>
      refine ⟨284, rfl, ?_⟩
      replace H := H.1 (by omega)
      show zGo (d + 1) m_X7_lookAt 314 [.ref 1013, .ref 1026, .int a2, .int v3, .int v6, zJ] [] (yz w5) (zKv F)
      refine g_s (pc' := 315) rfl ?_
      refine g_psh (pc' := 316) (v' := .int 4) rfl (congrArg Value.int kc_i4) ?_
      refine g_iclt (pc' := 319) rfl rfl (fun hc => ?_) (fun hc => ?_)
      · replace H := H.1 hc
        exact g_retv rfl rfl H
      · replace H := H.2 hc
        refine g_s (pc' := 320) rfl ?_
        refine g_psh (pc' := 322) (v' := .int 17) rfl (congrArg Value.int kc_b17) ?_
        refine g_icgt (pc' := 325) rfl rfl (fun hc => ?_) (fun hc => ?_)
        · replace H := H.1 hc
          exact g_retv rfl rfl H
        · replace H := H.2 hc
          refine g_s (pc' := 326) rfl ?_
          refine g_s (pc' := 327) rfl ?_
          refine g_s (pc' := 328) rfl ?_
          refine g_s (pc' := 329) rfl ?_
          refine g_callv (a := m_X7_work) (as := [.ref 1013, .int v3, .ref 1026, .int a2]) (rest := []) (ls0 := [.ref 1013, .int v3, .ref 1026, .int a2, zJ, zJ, zJ]) (pc' := 332) (t_virt rfl rfl rfl rfl rfl rfl) rfl rfl rfl ?_
          refine zGo.mono H (zKv_mono ?_)
          intro w7 H
          exact g_retv rfl rfl H
    | 10, _, hx =>
      refine ⟨284, rfl, ?_⟩
      replace H := H.1 (by omega)
      show zGo (d + 1) m_X7_lookAt 314 [.ref 1013, .ref 1026, .int a2, .int v3, .int v6, zJ] [] (yz w5) (zKv F)
      refine g_s (pc' := 315) rfl ?_
      refine g_psh (pc' := 316) (v' := .int 4) rfl (congrArg Value.int kc_i4) ?_
      refine g_iclt (pc' := 319) rfl rfl (fun hc => ?_) (fun hc => ?_)
      · replace H := H.1 hc
        exact g_retv rfl rfl H
      · replace H := H.2 hc
        refine g_s (pc' := 320) rfl ?_
        refine g_psh (pc' := 322) (v' := .int 17) rfl (congrArg Value.int kc_b17) ?_
        refine g_icgt (pc' := 325) rfl rfl (fun hc => ?_) (fun hc => ?_)
        · replace H := H.1 hc
          exact g_retv rfl rfl H
        · replace H := H.2 hc
          refine g_s (pc' := 326) rfl ?_
          refine g_s (pc' := 327) rfl ?_
          refine g_s (pc' := 328) rfl ?_
          refine g_s (pc' := 329) rfl ?_
          refine g_callv (a := m_X7_work) (as := [.ref 1013, .int v3, .ref 1026, .int a2]) (rest := []) (ls0 := [.ref 1013, .int v3, .ref 1026, .int a2, zJ, zJ, zJ]) (pc' := 332) (t_virt rfl rfl rfl rfl rfl rfl) rfl rfl rfl ?_
          refine zGo.mono H (zKv_mono ?_)
          intro w7 H
          exact g_retv rfl rfl H
    | 11, _, hx =>
      refine ⟨284, rfl, ?_⟩
      replace H := H.1 (by omega)
      show zGo (d + 1) m_X7_lookAt 314 [.ref 1013, .ref 1026, .int a2, .int v3, .int v6, zJ] [] (yz w5) (zKv F)
      refine g_s (pc' := 315) rfl ?_
      refine g_psh (pc' := 316) (v' := .int 4) rfl (congrArg Value.int kc_i4) ?_
      refine g_iclt (pc' := 319) rfl rfl (fun hc => ?_) (fun hc => ?_)
      · replace H := H.1 hc
        exact g_retv rfl rfl H
      · replace H := H.2 hc
        refine g_s (pc' := 320) rfl ?_
        refine g_psh (pc' := 322) (v' := .int 17) rfl (congrArg Value.int kc_b17) ?_
        refine g_icgt (pc' := 325) rfl rfl (fun hc => ?_) (fun hc => ?_)
        · replace H := H.1 hc
          exact g_retv rfl rfl H
        · replace H := H.2 hc
          refine g_s (pc' := 326) rfl ?_
          refine g_s (pc' := 327) rfl ?_
          refine g_s (pc' := 328) rfl ?_
          refine g_s (pc' := 329) rfl ?_
          refine g_callv (a := m_X7_work) (as := [.ref 1013, .int v3, .ref 1026, .int a2]) (rest := []) (ls0 := [.ref 1013, .int v3, .ref 1026, .int a2, zJ, zJ, zJ]) (pc' := 332) (t_virt rfl rfl rfl rfl rfl rfl) rfl rfl rfl ?_
          refine zGo.mono H (zKv_mono ?_)
          intro w7 H
          exact g_retv rfl rfl H
    | 12, _, hx =>
      refine ⟨284, rfl, ?_⟩
      replace H := H.1 (by omega)
      show zGo (d + 1) m_X7_lookAt 314 [.ref 1013, .ref 1026, .int a2, .int v3, .int v6, zJ] [] (yz w5) (zKv F)
      refine g_s (pc' := 315) rfl ?_
      refine g_psh (pc' := 316) (v' := .int 4) rfl (congrArg Value.int kc_i4) ?_
      refine g_iclt (pc' := 319) rfl rfl (fun hc => ?_) (fun hc => ?_)
      · replace H := H.1 hc
        exact g_retv rfl rfl H
      · replace H := H.2 hc
        refine g_s (pc' := 320) rfl ?_
        refine g_psh (pc' := 322) (v' := .int 17) rfl (congrArg Value.int kc_b17) ?_
        refine g_icgt (pc' := 325) rfl rfl (fun hc => ?_) (fun hc => ?_)
        · replace H := H.1 hc
          exact g_retv rfl rfl H
        · replace H := H.2 hc
          refine g_s (pc' := 326) rfl ?_
          refine g_s (pc' := 327) rfl ?_
          refine g_s (pc' := 328) rfl ?_
          refine g_s (pc' := 329) rfl ?_
          refine g_callv (a := m_X7_work) (as := [.ref 1013, .int v3, .ref 1026, .int a2]) (rest := []) (ls0 := [.ref 1013, .int v3, .ref 1026, .int a2, zJ, zJ, zJ]) (pc' := 332) (t_virt rfl rfl rfl rfl rfl rfl) rfl rfl rfl ?_
          refine zGo.mono H (zKv_mono ?_)
          intro w7 H
          exact g_retv rfl rfl H
    | 13, _, hx =>
      refine ⟨284, rfl, ?_⟩
      replace H := H.1 (by omega)
      show zGo (d + 1) m_X7_lookAt 314 [.ref 1013, .ref 1026, .int a2, .int v3, .int v6, zJ] [] (yz w5) (zKv F)
      refine g_s (pc' := 315) rfl ?_
      refine g_psh (pc' := 316) (v' := .int 4) rfl (congrArg Value.int kc_i4) ?_
      refine g_iclt (pc' := 319) rfl rfl (fun hc => ?_) (fun hc => ?_)
      · replace H := H.1 hc
        exact g_retv rfl rfl H
      · replace H := H.2 hc
        refine g_s (pc' := 320) rfl ?_
        refine g_psh (pc' := 322) (v' := .int 17) rfl (congrArg Value.int kc_b17) ?_
        refine g_icgt (pc' := 325) rfl rfl (fun hc => ?_) (fun hc => ?_)
        · replace H := H.1 hc
          exact g_retv rfl rfl H
        · replace H := H.2 hc
          refine g_s (pc' := 326) rfl ?_
          refine g_s (pc' := 327) rfl ?_
          refine g_s (pc' := 328) rfl ?_
          refine g_s (pc' := 329) rfl ?_
          refine g_callv (a := m_X7_work) (as := [.ref 1013, .int v3, .ref 1026, .int a2]) (rest := []) (ls0 := [.ref 1013, .int v3, .ref 1026, .int a2, zJ, zJ, zJ]) (pc' := 332) (t_virt rfl rfl rfl rfl rfl rfl) rfl rfl rfl ?_
          refine zGo.mono H (zKv_mono ?_)
          intro w7 H
          exact g_retv rfl rfl H
    | 14, _, hx =>
      refine ⟨284, rfl, ?_⟩
      replace H := H.1 (by omega)
      show zGo (d + 1) m_X7_lookAt 314 [.ref 1013, .ref 1026, .int a2, .int v3, .int v6, zJ] [] (yz w5) (zKv F)
      refine g_s (pc' := 315) rfl ?_
      refine g_psh (pc' := 316) (v' := .int 4) rfl (congrArg Value.int kc_i4) ?_
      refine g_iclt (pc' := 319) rfl rfl (fun hc => ?_) (fun hc => ?_)
      · replace H := H.1 hc
        exact g_retv rfl rfl H
      · replace H := H.2 hc
        refine g_s (pc' := 320) rfl ?_
        refine g_psh (pc' := 322) (v' := .int 17) rfl (congrArg Value.int kc_b17) ?_
        refine g_icgt (pc' := 325) rfl rfl (fun hc => ?_) (fun hc => ?_)
        · replace H := H.1 hc
          exact g_retv rfl rfl H
        · replace H := H.2 hc
          refine g_s (pc' := 326) rfl ?_
          refine g_s (pc' := 327) rfl ?_
          refine g_s (pc' := 328) rfl ?_
          refine g_s (pc' := 329) rfl ?_
          refine g_callv (a := m_X7_work) (as := [.ref 1013, .int v3, .ref 1026, .int a2]) (rest := []) (ls0 := [.ref 1013, .int v3, .ref 1026, .int a2, zJ, zJ, zJ]) (pc' := 332) (t_virt rfl rfl rfl rfl rfl rfl) rfl rfl rfl ?_
          refine zGo.mono H (zKv_mono ?_)
          intro w7 H
          exact g_retv rfl rfl H
    | 15, _, hx =>
      refine ⟨284, rfl, ?_⟩
      replace H := H.1 (by omega)
      show zGo (d + 1) m_X7_lookAt 314 [.ref 1013, .ref 1026, .int a2, .int v3, .int v6, zJ] [] (yz w5) (zKv F)
      refine g_s (pc' := 315) rfl ?_
      refine g_psh (pc' := 316) (v' := .int 4) rfl (congrArg Value.int kc_i4) ?_
      refine g_iclt (pc' := 319) rfl rfl (fun hc => ?_) (fun hc => ?_)
      · replace H := H.1 hc
        exact g_retv rfl rfl H
      · replace H := H.2 hc
        refine g_s (pc' := 320) rfl ?_
        refine g_psh (pc' := 322) (v' := .int 17) rfl (congrArg Value.int kc_b17) ?_
        refine g_icgt (pc' := 325) rfl rfl (fun hc => ?_) (fun hc => ?_)
        · replace H := H.1 hc
          exact g_retv rfl rfl H
        · replace H := H.2 hc
          refine g_s (pc' := 326) rfl ?_
          refine g_s (pc' := 327) rfl ?_
          refine g_s (pc' := 328) rfl ?_
          refine g_s (pc' := 329) rfl ?_
          refine g_callv (a := m_X7_work) (as := [.ref 1013, .int v3, .ref 1026, .int a2]) (rest := []) (ls0 := [.ref 1013, .int v3, .ref 1026, .int a2, zJ, zJ, zJ]) (pc' := 332) (t_virt rfl rfl rfl rfl rfl rfl) rfl rfl rfl ?_
          refine zGo.mono H (zKv_mono ?_)
          intro w7 H
          exact g_retv rfl rfl H
    | 16, _, hx =>
      refine ⟨284, rfl, ?_⟩
      replace H := H.1 (by omega)
      show zGo (d + 1) m_X7_lookAt 314 [.ref 1013, .ref 1026, .int a2, .int v3, .int v6, zJ] [] (yz w5) (zKv F)
      refine g_s (pc' := 315) rfl ?_
      refine g_psh (pc' := 316) (v' := .int 4) rfl (congrArg Value.int kc_i4) ?_
      refine g_iclt (pc' := 319) rfl rfl (fun hc => ?_) (fun hc => ?_)
      · replace H := H.1 hc
        exact g_retv rfl rfl H
      · replace H := H.2 hc
        refine g_s (pc' := 320) rfl ?_
        refine g_psh (pc' := 322) (v' := .int 17) rfl (congrArg Value.int kc_b17) ?_
        refine g_icgt (pc' := 325) rfl rfl (fun hc => ?_) (fun hc => ?_)
        · replace H := H.1 hc
          exact g_retv rfl rfl H
        · replace H := H.2 hc
          refine g_s (pc' := 326) rfl ?_
          refine g_s (pc' := 327) rfl ?_
          refine g_s (pc' := 328) rfl ?_
          refine g_s (pc' := 329) rfl ?_
          refine g_callv (a := m_X7_work) (as := [.ref 1013, .int v3, .ref 1026, .int a2]) (rest := []) (ls0 := [.ref 1013, .int v3, .ref 1026, .int a2, zJ, zJ, zJ]) (pc' := 332) (t_virt rfl rfl rfl rfl rfl rfl) rfl rfl rfl ?_
          refine zGo.mono H (zKv_mono ?_)
          intro w7 H
          exact g_retv rfl rfl H
    | 17, _, hx =>
      refine ⟨183, rfl, ?_⟩
      replace H := H.2.2.2.2.1 (by omega)
      show zGo (d + 1) m_X7_lookAt 213 [.ref 1013, .ref 1026, .int a2, .int v3, .int v6, zJ] [] (yz w5) (zKv F)
      refine g_s (pc' := 214) rfl ?_
      refine g_getf (pc' := 217) (v := .ref 1015) rfl rfl rfl rfl rfl ?_
      refine g_s (pc' := 218) rfl ?_
      refine g_getf (pc' := 221) (v := .ref 1015) rfl rfl rfl rfl rfl ?_
      refine g_calli (a := m_X3_top) (as := [.ref 1015]) (rest := [.ref 1015]) (ls0 := [.ref 1015]) (pc' := 224) (t_virt rfl rfl rfl rfl rfl rfl) rfl rfl rfl ?_
      refine zGo.mono H (zKi_mono ?_)
      intro v19 w18 H
      refine g_callv (a := m_X3_push) (as := [.ref 1015, .int v19]) (rest := []) (ls0 := [.ref 1015, .int v19]) (pc' := 227) (t_virt rfl rfl rfl rfl rfl rfl) rfl rfl rfl ?_
      refine zGo.mono H (zKv_mono ?_)
      intro w20 H
      refine g_s (pc' := 332) rfl ?_
      exact g_retv rfl rfl H
    | 18, _, hx =>
      refine ⟨200, rfl, ?_⟩
      replace H := H.2.2.2.2.2.1 (by omega)
      show zGo (d + 1) m_X7_lookAt 230 [.ref 1013, .ref 1026, .int a2, .int v3, .int v6, zJ] [] (yz w5) (zKv F)
      refine g_s (pc' := 231) rfl ?_
      refine g_getf (pc' := 234) (v := .ref 1015) rfl rfl rfl rfl rfl ?_
      refine g_callv (a := m_X3_swap) (as := [.ref 1015]) (rest := []) (ls0 := [.ref 1015, zJ]) (pc' := 237) (t_virt rfl rfl rfl rfl rfl rfl) rfl rfl rfl ?_
      refine zGo.mono H (zKv_mono ?_)
      intro w21 H
      refine g_s (pc' := 332) rfl ?_
      exact g_retv rfl rfl H
    | 19, _, hx =>
      refine ⟨210, rfl, ?_⟩
      replace H := H.2.2.2.2.2.2.1 (by omega)
      show zGo (d + 1) m_X7_lookAt 240 [.ref 1013, .ref 1026, .int a2, .int v3, .int v6, zJ] [] (yz w5) (zKv F)
      refine g_s (pc' := 241) rfl ?_
      refine g_getf (pc' := 244) (v := .ref 1015) rfl rfl rfl rfl rfl ?_
      refine g_calli (a := m_X3_pop) (as := [.ref 1015]) (rest := []) (ls0 := [.ref 1015]) (pc' := 247) (t_virt rfl rfl rfl rfl rfl rfl) rfl rfl rfl ?_
      refine zGo.mono H (zKi_mono ?_)
      intro v23 w22 H
      refine g_s (pc' := 248) rfl ?_
      refine g_s (pc' := 332) rfl ?_
      exact g_retv rfl rfl H
    | 20, _, hx =>
      refine ⟨284, rfl, ?_⟩
      replace H := H.1 (by omega)
      show zGo (d + 1) m_X7_lookAt 314 [.ref 1013, .ref 1026, .int a2, .int v3, .int v6, zJ] [] (yz w5) (zKv F)
      refine g_s (pc' := 315) rfl ?_
      refine g_psh (pc' := 316) (v' := .int 4) rfl (congrArg Value.int kc_i4) ?_
      refine g_iclt (pc' := 319) rfl rfl (fun hc => ?_) (fun hc => ?_)
      · replace H := H.1 hc
        exact g_retv rfl rfl H
      · replace H := H.2 hc
        refine g_s (pc' := 320) rfl ?_
        refine g_psh (pc' := 322) (v' := .int 17) rfl (congrArg Value.int kc_b17) ?_
        refine g_icgt (pc' := 325) rfl rfl (fun hc => ?_) (fun hc => ?_)
        · replace H := H.1 hc
          exact g_retv rfl rfl H
        · replace H := H.2 hc
          refine g_s (pc' := 326) rfl ?_
          refine g_s (pc' := 327) rfl ?_
          refine g_s (pc' := 328) rfl ?_
          refine g_s (pc' := 329) rfl ?_
          refine g_callv (a := m_X7_work) (as := [.ref 1013, .int v3, .ref 1026, .int a2]) (rest := []) (ls0 := [.ref 1013, .int v3, .ref 1026, .int a2, zJ, zJ, zJ]) (pc' := 332) (t_virt rfl rfl rfl rfl rfl rfl) rfl rfl rfl ?_
          refine zGo.mono H (zKv_mono ?_)
          intro w7 H
          exact g_retv rfl rfl H
    | 21, _, hx =>
      refine ⟨221, rfl, ?_⟩
      replace H := H.2.2.2.2.2.2.2.1 (by omega)
      show zGo (d + 1) m_X7_lookAt 251 [.ref 1013, .ref 1026, .int a2, .int v3, .int v6, zJ] [] (yz w5) (zKv F)
      refine g_s (pc' := 252) rfl ?_
      refine g_s (pc' := 253) rfl ?_
      refine g_getf (pc' := 256) (v := .ref 1015) rfl rfl rfl rfl rfl ?_
      refine g_calli (a := m_X3_pop) (as := [.ref 1015]) (rest := [.ref 1013]) (ls0 := [.ref 1015]) (pc' := 259) (t_virt rfl rfl rfl rfl rfl rfl) rfl rfl rfl ?_
      refine zGo.mono H (zKi_mono ?_)
      intro v25 w24 H
      refine g_s (pc' := 260) rfl ?_
      refine g_s (pc' := 261) rfl ?_
      refine g_callv (a := m_X7_guardOn) (as := [.ref 1013, .int v25, .ref 1026, .int a2]) (rest := []) (ls0 := [.ref 1013, .int v25, .ref 1026, .int a2]) (pc' := 264) (t_virt rfl rfl rfl rfl rfl rfl) rfl rfl rfl ?_
      refine zGo.mono H (zKv_mono ?_)
      intro w26 H
      refine g_s (pc' := 332) rfl ?_
      exact g_retv rfl rfl H
    | 22, _, hx =>
      refine ⟨221, rfl, ?_⟩
      replace H := H.2.2.2.2.2.2.2.1 (by omega)
      show zGo (d + 1) m_X7_lookAt 251 [.ref 1013, .ref 1026, .int a2, .int v3, .int v6, zJ] [] (yz w5) (zKv F)
      refine g_s (pc' := 252) rfl ?_
      refine g_s (pc' := 253) rfl ?_
      refine g_getf (pc' := 256) (v := .ref 1015) rfl rfl rfl rfl rfl ?_
      refine g_calli (a := m_X3_pop) (as := [.ref 1015]) (rest := [.ref 1013]) (ls0 := [.ref 1015]) (pc' := 259) (t_virt rfl rfl rfl rfl rfl rfl) rfl rfl rfl ?_
      refine zGo.mono H (zKi_mono ?_)
      intro v25 w24 H
      refine g_s (pc' := 260) rfl ?_
      refine g_s (pc' := 261) rfl ?_
      refine g_callv (a := m_X7_guardOn) (as := [.ref 1013, .int v25, .ref 1026, .int a2]) (rest := []) (ls0 := [.ref 1013, .int v25, .ref 1026, .int a2]) (pc' := 264) (t_virt rfl rfl rfl rfl rfl rfl) rfl rfl rfl ?_
      refine zGo.mono H (zKv_mono ?_)
      intro w26 H
      refine g_s (pc' := 332) rfl ?_
      exact g_retv rfl rfl H
    | 23, _, hx =>
      refine ⟨210, rfl, ?_⟩
      replace H := H.2.2.2.2.2.2.1 (by omega)
      show zGo (d + 1) m_X7_lookAt 240 [.ref 1013, .ref 1026, .int a2, .int v3, .int v6, zJ] [] (yz w5) (zKv F)
      refine g_s (pc' := 241) rfl ?_
      refine g_getf (pc' := 244) (v := .ref 1015) rfl rfl rfl rfl rfl ?_
      refine g_calli (a := m_X3_pop) (as := [.ref 1015]) (rest := []) (ls0 := [.ref 1015]) (pc' := 247) (t_virt rfl rfl rfl rfl rfl rfl) rfl rfl rfl ?_
      refine zGo.mono H (zKi_mono ?_)
      intro v23 w22 H
      refine g_s (pc' := 248) rfl ?_
      refine g_s (pc' := 332) rfl ?_
      exact g_retv rfl rfl H
    | 24, _, hx =>
      refine ⟨237, rfl, ?_⟩
      replace H := H.2.2.2.2.2.2.2.2.1 (by omega)
      show zGo (d + 1) m_X7_lookAt 267 [.ref 1013, .ref 1026, .int a2, .int v3, .int v6, zJ] [] (yz w5) (zKv F)
      refine g_s (pc' := 268) rfl ?_
      refine g_getf (pc' := 271) (v := .ref 1015) rfl rfl rfl rfl rfl ?_
      refine g_s (pc' := 272) rfl ?_
      refine g_s (pc' := 273) rfl ?_
      refine g_getf (pc' := 276) (v := .ref 1015) rfl rfl rfl rfl rfl ?_
      refine g_calli (a := m_X3_pop) (as := [.ref 1015]) (rest := [.ref 1013, .ref 1015]) (ls0 := [.ref 1015]) (pc' := 279) (t_virt rfl rfl rfl rfl rfl rfl) rfl rfl rfl ?_
      refine zGo.mono H (zKi_mono ?_)
      intro v28 w27 H
      refine g_s (pc' := 280) rfl ?_
      refine g_calli (a := m_X7_peeked) (as := [.ref 1013, .int v28, .ref 1026]) (rest := [.ref 1015]) (ls0 := [.ref 1013, .int v28, .ref 1026, zJ]) (pc' := 283) (t_virt rfl rfl rfl rfl rfl rfl) rfl rfl rfl ?_
      refine zGo.mono H (zKi_mono ?_)
      intro v30 w29 H
      refine g_callv (a := m_X3_push) (as := [.ref 1015, .int v30]) (rest := []) (ls0 := [.ref 1015, .int v30]) (pc' := 286) (t_virt rfl rfl rfl rfl rfl rfl) rfl rfl rfl ?_
      refine zGo.mono H (zKv_mono ?_)
      intro w31 H
      refine g_s (pc' := 332) rfl ?_
      exact g_retv rfl rfl H
    | 25, _, hx =>
      refine ⟨259, rfl, ?_⟩
      replace H := H.2.2.2.2.2.2.2.2.2 (by omega)
      show zGo (d + 1) m_X7_lookAt 289 [.ref 1013, .ref 1026, .int a2, .int v3, .int v6, zJ] [] (yz w5) (zKv F)
      refine g_s (pc' := 290) rfl ?_
      refine g_getf (pc' := 293) (v := .ref 1015) rfl rfl rfl rfl rfl ?_
      refine g_calli (a := m_X3_pop) (as := [.ref 1015]) (rest := []) (ls0 := [.ref 1015]) (pc' := 296) (t_virt rfl rfl rfl rfl rfl rfl) rfl rfl rfl ?_
      refine zGo.mono H (zKi_mono ?_)
      intro v33 w32 H
      refine g_ist (k := 5) (pc' := 298) (ls' := [.ref 1013, .ref 1026, .int a2, .int v3, .int v6, .int v33]) rfl rfl rfl rfl (zst1_of rfl (Or.inr rfl) rfl) ?_
      refine g_s (pc' := 299) rfl ?_
      refine g_s (pc' := 300) rfl ?_
      refine g_getf (pc' := 303) (v := .ref 1015) rfl rfl rfl rfl rfl ?_
      refine g_calli (a := m_X3_pop) (as := [.ref 1015]) (rest := [.ref 1013]) (ls0 := [.ref 1015]) (pc' := 306) (t_virt rfl rfl rfl rfl rfl rfl) rfl rfl rfl ?_
      refine zGo.mono H (zKi_mono ?_)
      intro v35 w34 H
      refine g_s (pc' := 308) rfl ?_
      refine g_callv (a := m_X7_notePoke) (as := [.ref 1013, .int v35, .int v33]) (rest := []) (ls0 := [.ref 1013, .int v35, .int v33]) (pc' := 311) (t_virt rfl rfl rfl rfl rfl rfl) rfl rfl rfl ?_
      refine zGo.mono H (zKv_mono ?_)
      intro w36 H
      refine g_s (pc' := 332) rfl ?_
      exact g_retv rfl rfl H
    | _ + 26, hj, _ => exact absurd hj (by omega)
set_option maxHeartbeats 4000000 in
theorem B_X7_made_0 {d : Nat} {w : zm} {F : Int32 → zm → Prop} (a1 : Int32) (a2 : Int32) (a3 : Int32) (a4 : Int32)
    (H : ((a4 < 0 → zGo d m_X7_made 13 [.ref 1013, .int a1, .int a2, .int a3, .int a4, .int (0 : Int32)] [] (yz w) (zKi F)) ∧ (¬ a4 < 0 → zGo d m_X7_made 13 [.ref 1013, .int a1, .int a2, .int a3, .int a4, .int a4] [] (yz w) (zKi F)))) :
    zGo d m_X7_made 0 [.ref 1013, .int a1, .int a2, .int a3, .int a4, zJ] [] (yz w) (zKi F) := by
  refine g_s (pc' := 2) rfl ?_
  refine g_ifge (pc' := 5) rfl rfl (fun hc => ?_) (fun hc => ?_)
  · replace H := H.1 hc
    refine g_psh (pc' := 6) (v' := .int 0) rfl (congrArg Value.int kc_i0) ?_
    refine g_s (pc' := 11) rfl ?_
    refine g_ist (k := 5) (pc' := 13) (ls' := [.ref 1013, .int a1, .int a2, .int a3, .int a4, .int (0 : Int32)]) rfl rfl rfl rfl (zst1_of rfl (Or.inr rfl) rfl) ?_
    exact H
  · replace H := H.2 hc
    refine g_s (pc' := 11) rfl ?_
    refine g_ist (k := 5) (pc' := 13) (ls' := [.ref 1013, .int a1, .int a2, .int a3, .int a4, .int a4]) rfl rfl rfl rfl (zst1_of rfl (Or.inr rfl) rfl) ?_
    exact H
set_option maxHeartbeats 4000000 in
theorem B_X7_made_13 {d : Nat} {w : zm} {F : Int32 → zm → Prop} (a1 : Int32) (a2 : Int32) (a3 : Int32) (a4 : Int32) (a5 : Int32)
    (H : ((a5 < (yI w 1013 8) → ((a5 < (80 : Int32) → (zin a5 80) ∧ (((yA w 1018 (Int32.toNatClampNeg a5)) = a1 → (zin a5 80) ∧ (((yA w 1019 (Int32.toNatClampNeg a5)) = a2 → (zin a5 80) ∧ (((yA w 1020 (Int32.toNatClampNeg a5)) = a3 → F a5 w) ∧ (¬ (yA w 1020 (Int32.toNatClampNeg a5)) = a3 → zGo d m_X7_made 13 [.ref 1013, .int a1, .int a2, .int a3, .int a4, .int (a5 + 1)] [] (yz w) (zKi F)))) ∧ (¬ (yA w 1019 (Int32.toNatClampNeg a5)) = a2 → zGo d m_X7_made 13 [.ref 1013, .int a1, .int a2, .int a3, .int a4, .int (a5 + 1)] [] (yz w) (zKi F)))) ∧ (¬ (yA w 1018 (Int32.toNatClampNeg a5)) = a1 → zGo d m_X7_made 13 [.ref 1013, .int a1, .int a2, .int a3, .int a4, .int (a5 + 1)] [] (yz w) (zKi F)))) ∧ (¬ a5 < (80 : Int32) → F (-1 : Int32) w))) ∧ (¬ a5 < (yI w 1013 8) → F (-1 : Int32) w))) :
    zGo d m_X7_made 13 [.ref 1013, .int a1, .int a2, .int a3, .int a4, .int a5] [] (yz w) (zKi F) := by
  refine g_s (pc' := 15) rfl ?_
  refine g_s (pc' := 16) rfl ?_
  refine g_getf (pc' := 19) (v := .int (yI w 1013 8)) rfl rfl rfl rfl rfl ?_
  refine g_icge (pc' := 22) rfl rfl (fun hc => ?_) (fun hc => ?_)
  · replace H := H.1 hc
    refine g_s (pc' := 24) rfl ?_
    refine g_psh (pc' := 26) (v' := .int 80) rfl (congrArg Value.int kc_b80) ?_
    refine g_icge (pc' := 29) rfl rfl (fun hc => ?_) (fun hc => ?_)
    · replace H := H.1 hc
      refine g_s (pc' := 30) rfl ?_
      refine g_getf (pc' := 33) (v := .ref 1018) rfl rfl rfl rfl rfl ?_
      refine g_s (pc' := 35) rfl ?_
      obtain ⟨hi1, H⟩ := H
      refine g_iald (pc' := 36) rfl rfl rfl rfl rfl (Or.inl rfl) hi1 ?_
      refine g_s (pc' := 37) rfl ?_
      refine g_icne (pc' := 40) rfl rfl (fun hc => ?_) (fun hc => ?_)
      · replace H := H.1 hc
        refine g_s (pc' := 41) rfl ?_
        refine g_getf (pc' := 44) (v := .ref 1019) rfl rfl rfl rfl rfl ?_
        refine g_s (pc' := 46) rfl ?_
        obtain ⟨hi2, H⟩ := H
        refine g_iald (pc' := 47) rfl rfl rfl rfl rfl (Or.inl rfl) hi2 ?_
        refine g_s (pc' := 48) rfl ?_
        refine g_icne (pc' := 51) rfl rfl (fun hc => ?_) (fun hc => ?_)
        · replace H := H.1 hc
          refine g_s (pc' := 52) rfl ?_
          refine g_getf (pc' := 55) (v := .ref 1020) rfl rfl rfl rfl rfl ?_
          refine g_s (pc' := 57) rfl ?_
          obtain ⟨hi3, H⟩ := H
          refine g_iald (pc' := 58) rfl rfl rfl rfl rfl (Or.inl rfl) hi3 ?_
          refine g_s (pc' := 59) rfl ?_
          refine g_icne (pc' := 62) rfl rfl (fun hc => ?_) (fun hc => ?_)
          · replace H := H.1 hc
            refine g_s (pc' := 64) rfl ?_
            exact g_reti rfl rfl H
          · replace H := H.2 hc
            refine g_inc (pc' := 68) (ls' := [.ref 1013, .int a1, .int a2, .int a3, .int a4, .int (a5 + 1)]) rfl rfl rfl kc_i1 (zst1_of rfl (Or.inr rfl) rfl) ?_
            refine g_s (pc' := 13) rfl ?_
            exact H
        · replace H := H.2 hc
          refine g_inc (pc' := 68) (ls' := [.ref 1013, .int a1, .int a2, .int a3, .int a4, .int (a5 + 1)]) rfl rfl rfl kc_i1 (zst1_of rfl (Or.inr rfl) rfl) ?_
          refine g_s (pc' := 13) rfl ?_
          exact H
      · replace H := H.2 hc
        refine g_inc (pc' := 68) (ls' := [.ref 1013, .int a1, .int a2, .int a3, .int a4, .int (a5 + 1)]) rfl rfl rfl kc_i1 (zst1_of rfl (Or.inr rfl) rfl) ?_
        refine g_s (pc' := 13) rfl ?_
        exact H
    · replace H := H.2 hc
      refine g_psh (pc' := 72) (v' := .int (-1)) rfl (congrArg Value.int kc_im1) ?_
      exact g_reti rfl rfl H
  · replace H := H.2 hc
    refine g_psh (pc' := 72) (v' := .int (-1)) rfl (congrArg Value.int kc_im1) ?_
    exact g_reti rfl rfl H
set_option maxHeartbeats 4000000 in
theorem B_X7_make_0 {d : Nat} {w : zm} {F : Int32 → zm → Prop} (a1 : Int32) (a2 : Int32) (a3 : Int32)
    (H : (((yI w 1013 8) < 0 → F (0 : Int32) w) ∧ (¬ (yI w 1013 8) < 0 → (((yI w 1013 8) < (80 : Int32) → (zin (yI w 1013 8) 80) ∧ (zin (yI w 1013 8) 80) ∧ (zin (yI w 1013 8) 80) ∧ F (((yI w 1013 8) + (1 : Int32)) - (1 : Int32)) (yuI (yuA (yuA (yuA w 1018 (Int32.toNatClampNeg (yI w 1013 8)) a1) 1019 (Int32.toNatClampNeg (yI w 1013 8)) a2) 1020 (Int32.toNatClampNeg (yI w 1013 8)) a3) 1013 8 ((yI w 1013 8) + (1 : Int32)))) ∧ (¬ (yI w 1013 8) < (80 : Int32) → F (0 : Int32) w))))) :
    zGo d m_X7_make 0 [.ref 1013, .int a1, .int a2, .int a3] [] (yz w) (zKi F) := by
  refine g_s (pc' := 1) rfl ?_
  refine g_getf (pc' := 4) (v := .int (yI w 1013 8)) rfl rfl rfl rfl rfl ?_
  refine g_iflt (pc' := 7) rfl rfl (fun hc => ?_) (fun hc => ?_)
  · replace H := H.1 hc
    refine g_psh (pc' := 17) (v' := .int 0) rfl (congrArg Value.int kc_i0) ?_
    exact g_reti rfl rfl H
  · replace H := H.2 hc
    refine g_s (pc' := 8) rfl ?_
    refine g_getf (pc' := 11) (v := .int (yI w 1013 8)) rfl rfl rfl rfl rfl ?_
    refine g_psh (pc' := 13) (v' := .int 80) rfl (congrArg Value.int kc_b80) ?_
    refine g_iclt (pc' := 16) rfl rfl (fun hc => ?_) (fun hc => ?_)
    · replace H := H.1 hc
      refine g_s (pc' := 19) rfl ?_
      refine g_getf (pc' := 22) (v := .ref 1018) rfl rfl rfl rfl rfl ?_
      refine g_s (pc' := 23) rfl ?_
      refine g_getf (pc' := 26) (v := .int (yI w 1013 8)) rfl rfl rfl rfl rfl ?_
      refine g_s (pc' := 27) rfl ?_
      obtain ⟨hi1, H⟩ := H
      refine g_iast (pc' := 28) rfl rfl rfl rfl rfl rfl hi1 ?_
      refine g_s (pc' := 29) rfl ?_
      refine g_getf (pc' := 32) (v := .ref 1019) rfl rfl rfl rfl rfl ?_
      refine g_s (pc' := 33) rfl ?_
      refine g_getf (pc' := 36) (v := .int (yI w 1013 8)) rfl rfl rfl rfl rfl ?_
      refine g_s (pc' := 37) rfl ?_
      obtain ⟨hi2, H⟩ := H
      refine g_iast (pc' := 38) rfl rfl rfl rfl rfl rfl hi2 ?_
      refine g_s (pc' := 39) rfl ?_
      refine g_getf (pc' := 42) (v := .ref 1020) rfl rfl rfl rfl rfl ?_
      refine g_s (pc' := 43) rfl ?_
      refine g_getf (pc' := 46) (v := .int (yI w 1013 8)) rfl rfl rfl rfl rfl ?_
      refine g_s (pc' := 47) rfl ?_
      obtain ⟨hi3, H⟩ := H
      refine g_iast (pc' := 48) rfl rfl rfl rfl rfl rfl hi3 ?_
      refine g_s (pc' := 49) rfl ?_
      refine g_s (pc' := 50) rfl ?_
      refine g_getf (pc' := 53) (v := .int (yI w 1013 8)) rfl rfl rfl rfl rfl ?_
      refine g_psh (pc' := 54) (v' := .int 1) rfl (congrArg Value.int kc_i1) ?_
      refine g_s (pc' := 55) (st' := [.int ((yI w 1013 8) + (1 : Int32)), .ref 1013]) rfl ?_
      refine g_putI (pc' := 58) rfl rfl rfl rfl rfl rfl (fun _ => rfl) ?_
      refine g_s (pc' := 59) rfl ?_
      refine g_getf (pc' := 62) (v := .int ((yI w 1013 8) + (1 : Int32))) rfl rfl rfl rfl rfl ?_
      refine g_psh (pc' := 63) (v' := .int 1) rfl (congrArg Value.int kc_i1) ?_
      refine g_s (pc' := 64) (st' := [.int (((yI w 1013 8) + (1 : Int32)) - (1 : Int32))]) rfl ?_
      exact g_reti rfl rfl H
    · replace H := H.2 hc
      refine g_psh (pc' := 17) (v' := .int 0) rfl (congrArg Value.int kc_i0) ?_
      exact g_reti rfl rfl H
set_option maxHeartbeats 4000000 in
theorem B_X7_makeNew_0 {d : Nat} {w : zm} {F : Int32 → zm → Prop} (a1 : Int32) (a2 : Int32) (a3 : Int32)
    (H : zGo d m_X7_make 0 [.ref 1013, .int a1, .int a2, .int a3] [] (yz (yuI w 1026 7 ((yI w 1026 7) + (1 : Int32)))) (zKi fun v2 w1 => F v2 w1)) :
    zGo (d + 1) m_X7_makeNew 0 [.ref 1013, .int a1, .int a2, .int a3, .ref 1026] [] (yz w) (zKi F) := by
  refine g_s (pc' := 2) rfl ?_
  refine g_s (pc' := 3) rfl ?_
  refine g_getf (pc' := 6) (v := .int (yI w 1026 7)) rfl rfl rfl rfl rfl ?_
  refine g_psh (pc' := 7) (v' := .int 1) rfl (congrArg Value.int kc_i1) ?_
  refine g_s (pc' := 8) (st' := [.int ((yI w 1026 7) + (1 : Int32)), .ref 1026]) rfl ?_
  refine g_putI (pc' := 11) rfl rfl rfl rfl rfl rfl (fun _ => rfl) ?_
  refine g_s (pc' := 12) rfl ?_
  refine g_s (pc' := 13) rfl ?_
  refine g_s (pc' := 14) rfl ?_
  refine g_s (pc' := 15) rfl ?_
  refine g_calli (a := m_X7_make) (as := [.ref 1013, .int a1, .int a2, .int a3]) (rest := []) (ls0 := [.ref 1013, .int a1, .int a2, .int a3]) (pc' := 18) (t_virt rfl rfl rfl rfl rfl rfl) rfl rfl rfl ?_
  refine zGo.mono H (zKi_mono ?_)
  intro v2 w1 H
  exact g_reti rfl rfl H
set_option maxHeartbeats 4000000 in
theorem B_X7_notePoke_0 {d : Nat} {w : zm} {F : zm → Prop} (a1 : Int32) (a2 : Int32)
    (H : zGo d m_X7_isConstant 0 [.ref 1013, .int a1] [] (yz (yuI w 1013 9 (yI w 1013 8))) (zKi fun v2 w1 => ((v2 = 0 → zGo d m_J7_fill_53178 0 [.ref 1017, .int (-1 : Int32), zJ, zJ] [] (yz w1) (zKv fun w3 => F w3)) ∧ (¬ v2 = 0 → zGo d m_X7_numberOf 0 [.ref 1013, .int a1] [] (yz w1) (zKi fun v5 w4 => (zin (v5 &&& (31 : Int32)) 32) ∧ F (yuA w4 1017 (Int32.toNatClampNeg (v5 &&& (31 : Int32))) a2)))))) :
    zGo (d + 1) m_X7_notePoke 0 [.ref 1013, .int a1, .int a2] [] (yz w) (zKv F) := by
  refine g_s (pc' := 1) rfl ?_
  refine g_s (pc' := 2) rfl ?_
  refine g_getf (pc' := 5) (v := .int (yI w 1013 8)) rfl rfl rfl rfl rfl ?_
  refine g_putI (pc' := 8) rfl rfl rfl rfl rfl rfl (fun _ => rfl) ?_
  refine g_s (pc' := 9) rfl ?_
  refine g_s (pc' := 10) rfl ?_
  refine g_calli (a := m_X7_isConstant) (as := [.ref 1013, .int a1]) (rest := []) (ls0 := [.ref 1013, .int a1]) (pc' := 13) (t_virt rfl rfl rfl rfl rfl rfl) rfl rfl rfl ?_
  refine zGo.mono H (zKi_mono ?_)
  intro v2 w1 H
  refine g_ifeq (pc' := 16) rfl rfl (fun hc => ?_) (fun hc => ?_)
  · replace H := H.1 hc
    refine g_s (pc' := 34) rfl ?_
    refine g_getf (pc' := 37) (v := .ref 1017) rfl rfl rfl rfl rfl ?_
    refine g_psh (pc' := 38) (v' := .int (-1)) rfl (congrArg Value.int kc_im1) ?_
    refine g_callv (a := m_J7_fill_53178) (as := [.ref 1017, .int (-1 : Int32)]) (rest := []) (ls0 := [.ref 1017, .int (-1 : Int32), zJ, zJ]) (pc' := 41) (t_stat rfl (Or.inl rfl) rfl rfl rfl rfl) rfl rfl rfl ?_
    refine zGo.mono H (zKv_mono ?_)
    intro w3 H
    exact g_retv rfl rfl H
  · replace H := H.2 hc
    refine g_s (pc' := 17) rfl ?_
    refine g_getf (pc' := 20) (v := .ref 1017) rfl rfl rfl rfl rfl ?_
    refine g_s (pc' := 21) rfl ?_
    refine g_s (pc' := 22) rfl ?_
    refine g_calli (a := m_X7_numberOf) (as := [.ref 1013, .int a1]) (rest := [.ref 1017]) (ls0 := [.ref 1013, .int a1]) (pc' := 25) (t_virt rfl rfl rfl rfl rfl rfl) rfl rfl rfl ?_
    refine zGo.mono H (zKi_mono ?_)
    intro v5 w4 H
    refine g_psh (pc' := 27) (v' := .int 31) rfl (congrArg Value.int kc_b31) ?_
    refine g_s (pc' := 28) (st' := [.int (v5 &&& (31 : Int32)), .ref 1017]) rfl ?_
    refine g_s (pc' := 29) rfl ?_
    obtain ⟨hi6, H⟩ := H
    refine g_iast (pc' := 30) rfl rfl rfl rfl rfl rfl hi6 ?_
    refine g_s (pc' := 41) rfl ?_
    exact g_retv rfl rfl H
set_option maxHeartbeats 4000000 in
theorem B_X7_numberOf_0 {d : Nat} {w : zm} {F : Int32 → zm → Prop} (a1 : Int32)
    (H : zGo d m_X7_isConstant 0 [.ref 1013, .int a1] [] (yz w) (zKi fun v2 w1 => ((v2 = 0 → F (0 : Int32) w1) ∧ (¬ v2 = 0 → (zin a1 80) ∧ F (yA w1 1019 (Int32.toNatClampNeg a1)) w1)))) :
    zGo (d + 1) m_X7_numberOf 0 [.ref 1013, .int a1] [] (yz w) (zKi F) := by
  refine g_s (pc' := 1) rfl ?_
  refine g_s (pc' := 2) rfl ?_
  refine g_calli (a := m_X7_isConstant) (as := [.ref 1013, .int a1]) (rest := []) (ls0 := [.ref 1013, .int a1]) (pc' := 5) (t_virt rfl rfl rfl rfl rfl rfl) rfl rfl rfl ?_
  refine zGo.mono H (zKi_mono ?_)
  intro v2 w1 H
  refine g_ifeq (pc' := 8) rfl rfl (fun hc => ?_) (fun hc => ?_)
  · replace H := H.1 hc
    refine g_psh (pc' := 18) (v' := .int 0) rfl (congrArg Value.int kc_i0) ?_
    exact g_reti rfl rfl H
  · replace H := H.2 hc
    refine g_s (pc' := 9) rfl ?_
    refine g_getf (pc' := 12) (v := .ref 1019) rfl rfl rfl rfl rfl ?_
    refine g_s (pc' := 13) rfl ?_
    obtain ⟨hi3, H⟩ := H
    refine g_iald (pc' := 14) rfl rfl rfl rfl rfl (Or.inl rfl) hi3 ?_
    refine g_s (pc' := 18) rfl ?_
    exact g_reti rfl rfl H
set_option maxHeartbeats 4000000 in
theorem B_X7_peeked_0 {d : Nat} {w : zm} {F : Int32 → zm → Prop} (a1 : Int32)
    (H : zGo d m_X7_isConstant 0 [.ref 1013, .int a1] [] (yz w) (zKi fun v2 w1 => ((v2 = 0 → zGo d m_X7_made 0 [.ref 1013, .int (25 : Int32), .int a1, .int (-1 : Int32), .int (yI w1 1013 9), zJ] [] (yz w1) (zKi fun v4 w3 => ((v4 = (-1 : Int32) → zGo d m_X7_makeNew 0 [.ref 1013, .int (25 : Int32), .int a1, .int (-1 : Int32), .ref 1026] [] (yz w3) (zKi fun v6 w5 => F v6 w5)) ∧ (¬ v4 = (-1 : Int32) → F v4 w3)))) ∧ (¬ v2 = 0 → zGo d m_X7_numberOf 0 [.ref 1013, .int a1] [] (yz w1) (zKi fun v8 w7 => (zin (v8 &&& (31 : Int32)) 32) ∧ (((yA w7 1017 (Int32.toNatClampNeg (v8 &&& (31 : Int32)))) = (-1 : Int32) → zGo d m_X7_makeNew 0 [.ref 1013, .int (25 : Int32), .int a1, .int (-1 : Int32), .ref 1026] [] (yz w7) (zKi fun v11 w10 => (zin (v8 &&& (31 : Int32)) 32) ∧ (zin (v8 &&& (31 : Int32)) 32) ∧ F (yA (yuA w10 1017 (Int32.toNatClampNeg (v8 &&& (31 : Int32))) v11) 1017 (Int32.toNatClampNeg (v8 &&& (31 : Int32)))) (yuA w10 1017 (Int32.toNatClampNeg (v8 &&& (31 : Int32))) v11))) ∧ (¬ (yA w7 1017 (Int32.toNatClampNeg (v8 &&& (31 : Int32)))) = (-1 : Int32) → (zin (v8 &&& (31 : Int32)) 32) ∧ F (yA w7 1017 (Int32.toNatClampNeg (v8 &&& (31 : Int32)))) w7))))))) :
    zGo (d + 1) m_X7_peeked 0 [.ref 1013, .int a1, .ref 1026, zJ] [] (yz w) (zKi F) := by
  refine g_s (pc' := 1) rfl ?_
  refine g_s (pc' := 2) rfl ?_
  refine g_calli (a := m_X7_isConstant) (as := [.ref 1013, .int a1]) (rest := []) (ls0 := [.ref 1013, .int a1]) (pc' := 5) (t_virt rfl rfl rfl rfl rfl rfl) rfl rfl rfl ?_
  refine zGo.mono H (zKi_mono ?_)
  intro v2 w1 H
  refine g_ifne (pc' := 8) rfl rfl (fun hc => ?_) (fun hc => ?_)
  · replace H := H.1 hc
    refine g_s (pc' := 9) rfl ?_
    refine g_psh (pc' := 11) (v' := .int 25) rfl (congrArg Value.int kc_b25) ?_
    refine g_s (pc' := 12) rfl ?_
    refine g_psh (pc' := 13) (v' := .int (-1)) rfl (congrArg Value.int kc_im1) ?_
    refine g_s (pc' := 14) rfl ?_
    refine g_getf (pc' := 17) (v := .int (yI w1 1013 9)) rfl rfl rfl rfl rfl ?_
    refine g_calli (a := m_X7_made) (as := [.ref 1013, .int (25 : Int32), .int a1, .int (-1 : Int32), .int (yI w1 1013 9)]) (rest := []) (ls0 := [.ref 1013, .int (25 : Int32), .int a1, .int (-1 : Int32), .int (yI w1 1013 9), zJ]) (pc' := 20) (t_virt rfl rfl rfl rfl rfl rfl) rfl rfl rfl ?_
    refine zGo.mono H (zKi_mono ?_)
    intro v4 w3 H
    refine g_ist (k := 3) (pc' := 21) (ls' := [.ref 1013, .int a1, .ref 1026, .int v4]) rfl rfl rfl rfl (zst1_of rfl (Or.inr rfl) rfl) ?_
    refine g_s (pc' := 22) rfl ?_
    refine g_psh (pc' := 23) (v' := .int (-1)) rfl (congrArg Value.int kc_im1) ?_
    refine g_iceq (pc' := 26) rfl rfl (fun hc => ?_) (fun hc => ?_)
    · replace H := H.1 hc
      refine g_s (pc' := 31) rfl ?_
      refine g_psh (pc' := 33) (v' := .int 25) rfl (congrArg Value.int kc_b25) ?_
      refine g_s (pc' := 34) rfl ?_
      refine g_psh (pc' := 35) (v' := .int (-1)) rfl (congrArg Value.int kc_im1) ?_
      refine g_s (pc' := 36) rfl ?_
      refine g_calli (a := m_X7_makeNew) (as := [.ref 1013, .int (25 : Int32), .int a1, .int (-1 : Int32), .ref 1026]) (rest := []) (ls0 := [.ref 1013, .int (25 : Int32), .int a1, .int (-1 : Int32), .ref 1026]) (pc' := 39) (t_virt rfl rfl rfl rfl rfl rfl) rfl rfl rfl ?_
      refine zGo.mono H (zKi_mono ?_)
      intro v6 w5 H
      exact g_reti rfl rfl H
    · replace H := H.2 hc
      refine g_s (pc' := 27) rfl ?_
      refine g_s (pc' := 39) rfl ?_
      exact g_reti rfl rfl H
  · replace H := H.2 hc
    refine g_s (pc' := 41) rfl ?_
    refine g_s (pc' := 42) rfl ?_
    refine g_calli (a := m_X7_numberOf) (as := [.ref 1013, .int a1]) (rest := []) (ls0 := [.ref 1013, .int a1]) (pc' := 45) (t_virt rfl rfl rfl rfl rfl rfl) rfl rfl rfl ?_
    refine zGo.mono H (zKi_mono ?_)
    intro v8 w7 H
    refine g_psh (pc' := 47) (v' := .int 31) rfl (congrArg Value.int kc_b31) ?_
    refine g_s (pc' := 48) (st' := [.int (v8 &&& (31 : Int32))]) rfl ?_
    refine g_ist (k := 3) (pc' := 49) (ls' := [.ref 1013, .int a1, .ref 1026, .int (v8 &&& (31 : Int32))]) rfl rfl rfl rfl (zst1_of rfl (Or.inr rfl) rfl) ?_
    refine g_s (pc' := 50) rfl ?_
    refine g_getf (pc' := 53) (v := .ref 1017) rfl rfl rfl rfl rfl ?_
    refine g_s (pc' := 54) rfl ?_
    obtain ⟨hi9, H⟩ := H
    refine g_iald (pc' := 55) rfl rfl rfl rfl rfl (Or.inl rfl) hi9 ?_
    refine g_psh (pc' := 56) (v' := .int (-1)) rfl (congrArg Value.int kc_im1) ?_
    refine g_icne (pc' := 59) rfl rfl (fun hc => ?_) (fun hc => ?_)
    · replace H := H.1 hc
      refine g_s (pc' := 60) rfl ?_
      refine g_getf (pc' := 63) (v := .ref 1017) rfl rfl rfl rfl rfl ?_
      refine g_s (pc' := 64) rfl ?_
      refine g_s (pc' := 65) rfl ?_
      refine g_psh (pc' := 67) (v' := .int 25) rfl (congrArg Value.int kc_b25) ?_
      refine g_s (pc' := 68) rfl ?_
      refine g_psh (pc' := 69) (v' := .int (-1)) rfl (congrArg Value.int kc_im1) ?_
      refine g_s (pc' := 70) rfl ?_
      refine g_calli (a := m_X7_makeNew) (as := [.ref 1013, .int (25 : Int32), .int a1, .int (-1 : Int32), .ref 1026]) (rest := [.int (v8 &&& (31 : Int32)), .ref 1017]) (ls0 := [.ref 1013, .int (25 : Int32), .int a1, .int (-1 : Int32), .ref 1026]) (pc' := 73) (t_virt rfl rfl rfl rfl rfl rfl) rfl rfl rfl ?_
      refine zGo.mono H (zKi_mono ?_)
      intro v11 w10 H
      obtain ⟨hi12, H⟩ := H
      refine g_iast (pc' := 74) rfl rfl rfl rfl rfl rfl hi12 ?_
      refine g_s (pc' := 75) rfl ?_
      refine g_getf (pc' := 78) (v := .ref 1017) rfl rfl rfl rfl rfl ?_
      refine g_s (pc' := 79) rfl ?_
      obtain ⟨hi13, H⟩ := H
      refine g_iald (pc' := 80) rfl rfl rfl rfl rfl (Or.inl rfl) hi13 ?_
      exact g_reti rfl rfl H
    · replace H := H.2 hc
      refine g_s (pc' := 75) rfl ?_
      refine g_getf (pc' := 78) (v := .ref 1017) rfl rfl rfl rfl rfl ?_
      refine g_s (pc' := 79) rfl ?_
      obtain ⟨hi14, H⟩ := H
      refine g_iald (pc' := 80) rfl rfl rfl rfl rfl (Or.inl rfl) hi14 ?_
      exact g_reti rfl rfl H
set_option maxHeartbeats 4000000 in
theorem B_X7_store_0 {d : Nat} {w : zm} {F : zm → Prop} (a1 : Int32) (a2 : Int32)
    (H : ((a1 < 0 → F w) ∧ (¬ a1 < 0 → ((a1 < (16 : Int32) → (zin a1 16) ∧ F (yuA w 1014 (Int32.toNatClampNeg a1) a2)) ∧ (¬ a1 < (16 : Int32) → F w))))) :
    zGo d m_X7_store 0 [.ref 1013, .int a1, .int a2] [] (yz w) (zKv F) := by
  refine g_s (pc' := 1) rfl ?_
  refine g_iflt (pc' := 4) rfl rfl (fun hc => ?_) (fun hc => ?_)
  · replace H := H.1 hc
    exact g_retv rfl rfl H
  · replace H := H.2 hc
    refine g_s (pc' := 5) rfl ?_
    refine g_psh (pc' := 7) (v' := .int 16) rfl (congrArg Value.int kc_b16) ?_
    refine g_icge (pc' := 10) rfl rfl (fun hc => ?_) (fun hc => ?_)
    · replace H := H.1 hc
      refine g_s (pc' := 11) rfl ?_
      refine g_getf (pc' := 14) (v := .ref 1014) rfl rfl rfl rfl rfl ?_
      refine g_s (pc' := 15) rfl ?_
      refine g_s (pc' := 16) rfl ?_
      obtain ⟨hi1, H⟩ := H
      refine g_iast (pc' := 17) rfl rfl rfl rfl rfl rfl hi1 ?_
      exact g_retv rfl rfl H
    · replace H := H.2 hc
      exact g_retv rfl rfl H
set_option maxHeartbeats 4000000 in
theorem B_X7_work_0 {d : Nat} {w : zm} {F : zm → Prop} (a1 : Int32) (a3 : Int32)
    (H : (((15 : Int32) < a1 → zGo (d + 1) m_X7_work 17 [.ref 1013, .int a1, .ref 1026, .int a3, zJ, zJ, zJ] [.int (-1 : Int32)] (yz w) (zKv F)) ∧ (¬ (15 : Int32) < a1 → zGo d m_X3_pop 0 [.ref 1015] [] (yz w) (zKi fun v2 w1 => zGo (d + 1) m_X7_work 17 [.ref 1013, .int a1, .ref 1026, .int a3, zJ, zJ, zJ] [.int v2] (yz w1) (zKv F))))) :
    zGo (d + 1) m_X7_work 0 [.ref 1013, .int a1, .ref 1026, .int a3, zJ, zJ, zJ] [] (yz w) (zKv F) := by
  refine g_s (pc' := 1) rfl ?_
  refine g_psh (pc' := 3) (v' := .int 15) rfl (congrArg Value.int kc_b15) ?_
  refine g_icgt (pc' := 6) rfl rfl (fun hc => ?_) (fun hc => ?_)
  · replace H := H.1 hc
    refine g_psh (pc' := 17) (v' := .int (-1)) rfl (congrArg Value.int kc_im1) ?_
    exact H
  · replace H := H.2 hc
    refine g_s (pc' := 7) rfl ?_
    refine g_getf (pc' := 10) (v := .ref 1015) rfl rfl rfl rfl rfl ?_
    refine g_calli (a := m_X3_pop) (as := [.ref 1015]) (rest := []) (ls0 := [.ref 1015]) (pc' := 13) (t_virt rfl rfl rfl rfl rfl rfl) rfl rfl rfl ?_
    refine zGo.mono H (zKi_mono ?_)
    intro v2 w1 H
    refine g_s (pc' := 17) rfl ?_
    exact H
set_option maxHeartbeats 4000000 in
theorem B_X7_work_17 {d : Nat} {w : zm} {F : zm → Prop} (a1 : Int32) (a3 : Int32) (s0 : Int32)
    (H : zGo d m_X3_pop 0 [.ref 1015] [] (yz w) (zKi fun v2 w1 => ((a1 = (7 : Int32) → zGo d m_X7_guardOn 0 [.ref 1013, .int s0, .ref 1026, .int a3] [] (yz w1) (zKv fun w3 => zGo (d + 1) m_X7_work 48 [.ref 1013, .int a1, .ref 1026, .int a3, .int s0, .int v2, zJ] [] (yz w3) (zKv F))) ∧ (¬ a1 = (7 : Int32) → ((a1 = (8 : Int32) → zGo d m_X7_guardOn 0 [.ref 1013, .int s0, .ref 1026, .int a3] [] (yz w1) (zKv fun w4 => zGo (d + 1) m_X7_work 48 [.ref 1013, .int a1, .ref 1026, .int a3, .int s0, .int v2, zJ] [] (yz w4) (zKv F))) ∧ (¬ a1 = (8 : Int32) → zGo (d + 1) m_X7_work 48 [.ref 1013, .int a1, .ref 1026, .int a3, .int s0, .int v2, zJ] [] (yz w1) (zKv F))))))) :
    zGo (d + 1) m_X7_work 17 [.ref 1013, .int a1, .ref 1026, .int a3, zJ, zJ, zJ] [.int s0] (yz w) (zKv F) := by
  refine g_ist (k := 4) (pc' := 19) (ls' := [.ref 1013, .int a1, .ref 1026, .int a3, .int s0, zJ, zJ]) rfl rfl rfl rfl (zst1_of rfl (Or.inr rfl) rfl) ?_
  refine g_s (pc' := 20) rfl ?_
  refine g_getf (pc' := 23) (v := .ref 1015) rfl rfl rfl rfl rfl ?_
  refine g_calli (a := m_X3_pop) (as := [.ref 1015]) (rest := []) (ls0 := [.ref 1015]) (pc' := 26) (t_virt rfl rfl rfl rfl rfl rfl) rfl rfl rfl ?_
  refine zGo.mono H (zKi_mono ?_)
  intro v2 w1 H
  refine g_ist (k := 5) (pc' := 28) (ls' := [.ref 1013, .int a1, .ref 1026, .int a3, .int s0, .int v2, zJ]) rfl rfl rfl rfl (zst1_of rfl (Or.inr rfl) rfl) ?_
  refine g_s (pc' := 29) rfl ?_
  refine g_psh (pc' := 31) (v' := .int 7) rfl (congrArg Value.int kc_b7) ?_
  refine g_iceq (pc' := 34) rfl rfl (fun hc => ?_) (fun hc => ?_)
  · replace H := H.1 hc
    refine g_s (pc' := 41) rfl ?_
    refine g_s (pc' := 43) rfl ?_
    refine g_s (pc' := 44) rfl ?_
    refine g_s (pc' := 45) rfl ?_
    refine g_callv (a := m_X7_guardOn) (as := [.ref 1013, .int s0, .ref 1026, .int a3]) (rest := []) (ls0 := [.ref 1013, .int s0, .ref 1026, .int a3]) (pc' := 48) (t_virt rfl rfl rfl rfl rfl rfl) rfl rfl rfl ?_
    refine zGo.mono H (zKv_mono ?_)
    intro w3 H
    exact H
  · replace H := H.2 hc
    refine g_s (pc' := 35) rfl ?_
    refine g_psh (pc' := 37) (v' := .int 8) rfl (congrArg Value.int kc_b8) ?_
    refine g_icne (pc' := 40) rfl rfl (fun hc => ?_) (fun hc => ?_)
    · replace H := H.1 hc
      refine g_s (pc' := 41) rfl ?_
      refine g_s (pc' := 43) rfl ?_
      refine g_s (pc' := 44) rfl ?_
      refine g_s (pc' := 45) rfl ?_
      refine g_callv (a := m_X7_guardOn) (as := [.ref 1013, .int s0, .ref 1026, .int a3]) (rest := []) (ls0 := [.ref 1013, .int s0, .ref 1026, .int a3]) (pc' := 48) (t_virt rfl rfl rfl rfl rfl rfl) rfl rfl rfl ?_
      refine zGo.mono H (zKv_mono ?_)
      intro w4 H
      exact H
    · replace H := H.2 hc
      exact H
set_option maxHeartbeats 4000000 in
theorem B_X7_work_48 {d : Nat} {w : zm} {F : zm → Prop} (a1 : Int32) (a3 : Int32) (a4 : Int32) (a5 : Int32)
    (H : zGo d m_X7_isConstant 0 [.ref 1013, .int a5] [] (yz w) (zKi fun v2 w1 => ((v2 = 0 → zGo (d + 1) m_X7_work 110 [.ref 1013, .int a1, .ref 1026, .int a3, .int a4, .int a5, zJ] [] (yz w1) (zKv F)) ∧ (¬ v2 = 0 → ((a4 = (-1 : Int32) → zGo (d + 1) m_X7_work 72 [.ref 1013, .int a1, .ref 1026, .int a3, .int a4, .int a5, zJ] [] (yz w1) (zKv F)) ∧ (¬ a4 = (-1 : Int32) → zGo d m_X7_isConstant 0 [.ref 1013, .int a4] [] (yz w1) (zKi fun v4 w3 => ((v4 = 0 → zGo (d + 1) m_X7_work 110 [.ref 1013, .int a1, .ref 1026, .int a3, .int a4, .int a5, zJ] [] (yz w3) (zKv F)) ∧ (¬ v4 = 0 → zGo (d + 1) m_X7_work 72 [.ref 1013, .int a1, .ref 1026, .int a3, .int a4, .int a5, zJ] [] (yz w3) (zKv F)))))))))) :
    zGo (d + 1) m_X7_work 48 [.ref 1013, .int a1, .ref 1026, .int a3, .int a4, .int a5, zJ] [] (yz w) (zKv F) := by
  refine g_s (pc' := 49) rfl ?_
  refine g_s (pc' := 51) rfl ?_
  refine g_calli (a := m_X7_isConstant) (as := [.ref 1013, .int a5]) (rest := []) (ls0 := [.ref 1013, .int a5]) (pc' := 54) (t_virt rfl rfl rfl rfl rfl rfl) rfl rfl rfl ?_
  refine zGo.mono H (zKi_mono ?_)
  intro v2 w1 H
  refine g_ifeq (pc' := 57) rfl rfl (fun hc => ?_) (fun hc => ?_)
  · replace H := H.1 hc
    exact H
  · replace H := H.2 hc
    refine g_s (pc' := 59) rfl ?_
    refine g_psh (pc' := 60) (v' := .int (-1)) rfl (congrArg Value.int kc_im1) ?_
    refine g_iceq (pc' := 63) rfl rfl (fun hc => ?_) (fun hc => ?_)
    · replace H := H.1 hc
      exact H
    · replace H := H.2 hc
      refine g_s (pc' := 64) rfl ?_
      refine g_s (pc' := 66) rfl ?_
      refine g_calli (a := m_X7_isConstant) (as := [.ref 1013, .int a4]) (rest := []) (ls0 := [.ref 1013, .int a4]) (pc' := 69) (t_virt rfl rfl rfl rfl rfl rfl) rfl rfl rfl ?_
      refine zGo.mono H (zKi_mono ?_)
      intro v4 w3 H
      refine g_ifeq (pc' := 72) rfl rfl (fun hc => ?_) (fun hc => ?_)
      · replace H := H.1 hc
        exact H
      · replace H := H.2 hc
        exact H
set_option maxHeartbeats 4000000 in
theorem B_X7_work_72 {d : Nat} {w : zm} {F : zm → Prop} (a1 : Int32) (a3 : Int32) (a4 : Int32) (a5 : Int32)
    (H : zGo d m_X7_numberOf 0 [.ref 1013, .int a5] [] (yz (yuI w 1026 8 ((yI w 1026 8) + (1 : Int32)))) (zKi fun v2 w1 => zGo d m_X7_numberOf 0 [.ref 1013, .int a4] [] (yz w1) (zKi fun v4 w3 => zGo d m_X8_result 0 [.int a1, .int v2, .int v4] [] (yz w3) (zKi fun v6 w5 => zGo d m_X7_constant 0 [.ref 1013, .int v6, zJ] [] (yz w5) (zKi fun v8 w7 => zGo d m_X3_push 0 [.ref 1015, .int v8] [] (yz w7) (zKv fun w9 => F w9)))))) :
    zGo (d + 1) m_X7_work 72 [.ref 1013, .int a1, .ref 1026, .int a3, .int a4, .int a5, zJ] [] (yz w) (zKv F) := by
  refine g_s (pc' := 73) rfl ?_
  refine g_s (pc' := 74) rfl ?_
  refine g_getf (pc' := 77) (v := .int (yI w 1026 8)) rfl rfl rfl rfl rfl ?_
  refine g_psh (pc' := 78) (v' := .int 1) rfl (congrArg Value.int kc_i1) ?_
  refine g_s (pc' := 79) (st' := [.int ((yI w 1026 8) + (1 : Int32)), .ref 1026]) rfl ?_
  refine g_putI (pc' := 82) rfl rfl rfl rfl rfl rfl (fun _ => rfl) ?_
  refine g_s (pc' := 83) rfl ?_
  refine g_getf (pc' := 86) (v := .ref 1015) rfl rfl rfl rfl rfl ?_
  refine g_s (pc' := 87) rfl ?_
  refine g_s (pc' := 88) rfl ?_
  refine g_s (pc' := 89) rfl ?_
  refine g_s (pc' := 91) rfl ?_
  refine g_calli (a := m_X7_numberOf) (as := [.ref 1013, .int a5]) (rest := [.int a1, .ref 1013, .ref 1015]) (ls0 := [.ref 1013, .int a5]) (pc' := 94) (t_virt rfl rfl rfl rfl rfl rfl) rfl rfl rfl ?_
  refine zGo.mono H (zKi_mono ?_)
  intro v2 w1 H
  refine g_s (pc' := 95) rfl ?_
  refine g_s (pc' := 97) rfl ?_
  refine g_calli (a := m_X7_numberOf) (as := [.ref 1013, .int a4]) (rest := [.int v2, .int a1, .ref 1013, .ref 1015]) (ls0 := [.ref 1013, .int a4]) (pc' := 100) (t_virt rfl rfl rfl rfl rfl rfl) rfl rfl rfl ?_
  refine zGo.mono H (zKi_mono ?_)
  intro v4 w3 H
  refine g_calli (a := m_X8_result) (as := [.int a1, .int v2, .int v4]) (rest := [.ref 1013, .ref 1015]) (ls0 := [.int a1, .int v2, .int v4]) (pc' := 103) (t_stat rfl (Or.inr rfl) rfl rfl rfl rfl) rfl rfl rfl ?_
  refine zGo.mono H (zKi_mono ?_)
  intro v6 w5 H
  refine g_calli (a := m_X7_constant) (as := [.ref 1013, .int v6]) (rest := [.ref 1015]) (ls0 := [.ref 1013, .int v6, zJ]) (pc' := 106) (t_virt rfl rfl rfl rfl rfl rfl) rfl rfl rfl ?_
  refine zGo.mono H (zKi_mono ?_)
  intro v8 w7 H
  refine g_callv (a := m_X3_push) (as := [.ref 1015, .int v8]) (rest := []) (ls0 := [.ref 1015, .int v8]) (pc' := 109) (t_virt rfl rfl rfl rfl rfl rfl) rfl rfl rfl ?_
  refine zGo.mono H (zKv_mono ?_)
  intro w9 H
  exact g_retv rfl rfl H
set_option maxHeartbeats 4000000 in
theorem B_X7_work_110 {d : Nat} {w : zm} {F : zm → Prop} (a1 : Int32) (a3 : Int32) (a4 : Int32) (a5 : Int32)
    (H : zGo d m_X7_made 0 [.ref 1013, .int a1, .int a5, .int a4, .int (32 : Int32), zJ] [] (yz w) (zKi fun v2 w1 => ((v2 = (-1 : Int32) → zGo d m_X7_makeNew 0 [.ref 1013, .int a1, .int a5, .int a4, .ref 1026] [] (yz w1) (zKi fun v4 w3 => zGo d m_X3_push 0 [.ref 1015, .int v4] [] (yz w3) (zKv fun w5 => F w5))) ∧ (¬ v2 = (-1 : Int32) → zGo d m_X3_push 0 [.ref 1015, .int v2] [] (yz w1) (zKv fun w6 => F w6))))) :
    zGo (d + 1) m_X7_work 110 [.ref 1013, .int a1, .ref 1026, .int a3, .int a4, .int a5, zJ] [] (yz w) (zKv F) := by
  refine g_s (pc' := 111) rfl ?_
  refine g_s (pc' := 112) rfl ?_
  refine g_s (pc' := 114) rfl ?_
  refine g_s (pc' := 116) rfl ?_
  refine g_psh (pc' := 118) (v' := .int 32) rfl (congrArg Value.int kc_b32) ?_
  refine g_calli (a := m_X7_made) (as := [.ref 1013, .int a1, .int a5, .int a4, .int (32 : Int32)]) (rest := []) (ls0 := [.ref 1013, .int a1, .int a5, .int a4, .int (32 : Int32), zJ]) (pc' := 121) (t_virt rfl rfl rfl rfl rfl rfl) rfl rfl rfl ?_
  refine zGo.mono H (zKi_mono ?_)
  intro v2 w1 H
  refine g_ist (k := 6) (pc' := 123) (ls' := [.ref 1013, .int a1, .ref 1026, .int a3, .int a4, .int a5, .int v2]) rfl rfl rfl rfl (zst1_of rfl (Or.inr rfl) rfl) ?_
  refine g_s (pc' := 124) rfl ?_
  refine g_getf (pc' := 127) (v := .ref 1015) rfl rfl rfl rfl rfl ?_
  refine g_s (pc' := 129) rfl ?_
  refine g_psh (pc' := 130) (v' := .int (-1)) rfl (congrArg Value.int kc_im1) ?_
  refine g_iceq (pc' := 133) rfl rfl (fun hc => ?_) (fun hc => ?_)
  · replace H := H.1 hc
    refine g_s (pc' := 139) rfl ?_
    refine g_s (pc' := 140) rfl ?_
    refine g_s (pc' := 142) rfl ?_
    refine g_s (pc' := 144) rfl ?_
    refine g_s (pc' := 145) rfl ?_
    refine g_calli (a := m_X7_makeNew) (as := [.ref 1013, .int a1, .int a5, .int a4, .ref 1026]) (rest := [.ref 1015]) (ls0 := [.ref 1013, .int a1, .int a5, .int a4, .ref 1026]) (pc' := 148) (t_virt rfl rfl rfl rfl rfl rfl) rfl rfl rfl ?_
    refine zGo.mono H (zKi_mono ?_)
    intro v4 w3 H
    refine g_callv (a := m_X3_push) (as := [.ref 1015, .int v4]) (rest := []) (ls0 := [.ref 1015, .int v4]) (pc' := 151) (t_virt rfl rfl rfl rfl rfl rfl) rfl rfl rfl ?_
    refine zGo.mono H (zKv_mono ?_)
    intro w5 H
    exact g_retv rfl rfl H
  · replace H := H.2 hc
    refine g_s (pc' := 135) rfl ?_
    refine g_s (pc' := 148) rfl ?_
    refine g_callv (a := m_X3_push) (as := [.ref 1015, .int v2]) (rest := []) (ls0 := [.ref 1015, .int v2]) (pc' := 151) (t_virt rfl rfl rfl rfl rfl rfl) rfl rfl rfl ?_
    refine zGo.mono H (zKv_mono ?_)
    intro w6 H
    exact g_retv rfl rfl H
