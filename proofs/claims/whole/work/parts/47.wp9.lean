/-! what is enough for a run from here, of each method: printed by gen_wp.py out of the table -/
set_option maxHeartbeats 4000000 in
theorem B_X9_act_0 {d : Nat} {w : zm} {F : zm → Prop} 
    (H : zGo d m_X9_op 0 [.ref 1031, .int (yI w 1031 6)] [] (yz w) (zKi fun v2 w1 => zGo d m_X9_goesTo 0 [.ref 1031, zJ, zJ] [] (yz w1) (zKi fun v4 w3 => zGo d m_X9_argument 0 [.ref 1031, .int (yI w3 1031 6)] [] (yz w3) (zKi fun v6 w5 => ((v2 < (4 : Int32) → zGo (d + 1) m_X9_act 82 [.ref 1031, .int v2, .int v4, .int v6] [] (yz w5) (zKv F)) ∧ (¬ v2 < (4 : Int32) → (((15 : Int32) < v2 → zGo (d + 1) m_X9_act 82 [.ref 1031, .int v2, .int v4, .int v6] [] (yz w5) (zKv F)) ∧ (¬ (15 : Int32) < v2 → (zin (((yI w5 1031 9) - (1 : Int32)) - (1 : Int32)) 20) ∧ (zin ((yI w5 1031 9) - (1 : Int32)) 20) ∧ zGo d m_X9_reckon 0 [.int v2, .int (yA w5 1034 (Int32.toNatClampNeg (((yI w5 1031 9) - (1 : Int32)) - (1 : Int32)))), .int (yA w5 1034 (Int32.toNatClampNeg ((yI w5 1031 9) - (1 : Int32))))] [] (yz (yuI w5 1031 9 ((yI w5 1031 9) - (1 : Int32)))) (zKi fun v10 w9 => (zin (((yI w5 1031 9) - (1 : Int32)) - (1 : Int32)) 20) ∧ zGo (d + 1) m_X9_act 130 [.ref 1031, .int v2, .int v4, .int v6] [] (yz (yuA w9 1034 (Int32.toNatClampNeg (((yI w5 1031 9) - (1 : Int32)) - (1 : Int32))) v10)) (zKv F)))))))))) :
    zGo (d + 1) m_X9_act 0 [.ref 1031, zJ, zJ, zJ] [] (yz w) (zKv F) := by
  refine g_s (pc' := 1) rfl ?_
  refine g_s (pc' := 2) rfl ?_
  refine g_getf (pc' := 5) (v := .int (yI w 1031 6)) rfl rfl rfl rfl rfl ?_
  refine g_calli (a := m_X9_op) (as := [.ref 1031, .int (yI w 1031 6)]) (rest := []) (ls0 := [.ref 1031, .int (yI w 1031 6)]) (pc' := 8) (t_virt rfl rfl rfl rfl rfl rfl) rfl rfl rfl ?_
  refine zGo.mono H (zKi_mono ?_)
  intro v2 w1 H
  refine g_ist (k := 1) (pc' := 9) (ls' := [.ref 1031, .int v2, zJ, zJ]) rfl rfl rfl rfl (zst1_of rfl (Or.inr rfl) rfl) ?_
  refine g_s (pc' := 10) rfl ?_
  refine g_calli (a := m_X9_goesTo) (as := [.ref 1031]) (rest := []) (ls0 := [.ref 1031, zJ, zJ]) (pc' := 13) (t_virt rfl rfl rfl rfl rfl rfl) rfl rfl rfl ?_
  refine zGo.mono H (zKi_mono ?_)
  intro v4 w3 H
  refine g_ist (k := 2) (pc' := 14) (ls' := [.ref 1031, .int v2, .int v4, zJ]) rfl rfl rfl rfl (zst1_of rfl (Or.inr rfl) rfl) ?_
  refine g_s (pc' := 15) rfl ?_
  refine g_s (pc' := 16) rfl ?_
  refine g_getf (pc' := 19) (v := .int (yI w3 1031 6)) rfl rfl rfl rfl rfl ?_
  refine g_calli (a := m_X9_argument) (as := [.ref 1031, .int (yI w3 1031 6)]) (rest := []) (ls0 := [.ref 1031, .int (yI w3 1031 6)]) (pc' := 22) (t_virt rfl rfl rfl rfl rfl rfl) rfl rfl rfl ?_
  refine zGo.mono H (zKi_mono ?_)
  intro v6 w5 H
  refine g_ist (k := 3) (pc' := 23) (ls' := [.ref 1031, .int v2, .int v4, .int v6]) rfl rfl rfl rfl (zst1_of rfl (Or.inr rfl) rfl) ?_
  refine g_s (pc' := 24) rfl ?_
  refine g_psh (pc' := 25) (v' := .int 4) rfl (congrArg Value.int kc_i4) ?_
  refine g_iclt (pc' := 28) rfl rfl (fun hc => ?_) (fun hc => ?_)
  · replace H := H.1 hc
    exact H
  · replace H := H.2 hc
    refine g_s (pc' := 29) rfl ?_
    refine g_psh (pc' := 31) (v' := .int 15) rfl (congrArg Value.int kc_b15) ?_
    refine g_icgt (pc' := 34) rfl rfl (fun hc => ?_) (fun hc => ?_)
    · replace H := H.1 hc
      exact H
    · replace H := H.2 hc
      refine g_s (pc' := 35) rfl ?_
      refine g_s (pc' := 36) rfl ?_
      refine g_getf (pc' := 39) (v := .int (yI w5 1031 9)) rfl rfl rfl rfl rfl ?_
      refine g_psh (pc' := 40) (v' := .int 1) rfl (congrArg Value.int kc_i1) ?_
      refine g_s (pc' := 41) (st' := [.int ((yI w5 1031 9) - (1 : Int32)), .ref 1031]) rfl ?_
      refine g_putI (pc' := 44) rfl rfl rfl rfl rfl rfl (fun _ => rfl) ?_
      refine g_s (pc' := 45) rfl ?_
      refine g_getf (pc' := 48) (v := .ref 1034) rfl rfl rfl rfl rfl ?_
      refine g_s (pc' := 49) rfl ?_
      refine g_getf (pc' := 52) (v := .int ((yI w5 1031 9) - (1 : Int32))) rfl rfl rfl rfl rfl ?_
      refine g_psh (pc' := 53) (v' := .int 1) rfl (congrArg Value.int kc_i1) ?_
      refine g_s (pc' := 54) (st' := [.int (((yI w5 1031 9) - (1 : Int32)) - (1 : Int32)), .ref 1034]) rfl ?_
      refine g_s (pc' := 55) rfl ?_
      refine g_s (pc' := 56) rfl ?_
      refine g_getf (pc' := 59) (v := .ref 1034) rfl rfl rfl rfl rfl ?_
      refine g_s (pc' := 60) rfl ?_
      refine g_getf (pc' := 63) (v := .int ((yI w5 1031 9) - (1 : Int32))) rfl rfl rfl rfl rfl ?_
      refine g_psh (pc' := 64) (v' := .int 1) rfl (congrArg Value.int kc_i1) ?_
      refine g_s (pc' := 65) (st' := [.int (((yI w5 1031 9) - (1 : Int32)) - (1 : Int32)), .ref 1034, .int v2, .int (((yI w5 1031 9) - (1 : Int32)) - (1 : Int32)), .ref 1034]) rfl ?_
      obtain ⟨hi7, H⟩ := H
      refine g_iald (pc' := 66) rfl rfl rfl rfl rfl (Or.inl rfl) hi7 ?_
      refine g_s (pc' := 67) rfl ?_
      refine g_getf (pc' := 70) (v := .ref 1034) rfl rfl rfl rfl rfl ?_
      refine g_s (pc' := 71) rfl ?_
      refine g_getf (pc' := 74) (v := .int ((yI w5 1031 9) - (1 : Int32))) rfl rfl rfl rfl rfl ?_
      obtain ⟨hi8, H⟩ := H
      refine g_iald (pc' := 75) rfl rfl rfl rfl rfl (Or.inl rfl) hi8 ?_
      refine g_calli (a := m_X9_reckon) (as := [.int v2, .int (yA w5 1034 (Int32.toNatClampNeg (((yI w5 1031 9) - (1 : Int32)) - (1 : Int32)))), .int (yA w5 1034 (Int32.toNatClampNeg ((yI w5 1031 9) - (1 : Int32))))]) (rest := [.int (((yI w5 1031 9) - (1 : Int32)) - (1 : Int32)), .ref 1034]) (ls0 := [.int v2, .int (yA w5 1034 (Int32.toNatClampNeg (((yI w5 1031 9) - (1 : Int32)) - (1 : Int32)))), .int (yA w5 1034 (Int32.toNatClampNeg ((yI w5 1031 9) - (1 : Int32))))]) (pc' := 78) (t_stat rfl (Or.inl rfl) rfl rfl rfl rfl) rfl rfl rfl ?_
      refine zGo.mono H (zKi_mono ?_)
      intro v10 w9 H
      obtain ⟨hi11, H⟩ := H
      refine g_iast (pc' := 79) rfl rfl rfl rfl rfl rfl hi11 ?_
      refine g_s (pc' := 130) rfl ?_
      exact H
set_option maxHeartbeats 4000000 in
theorem B_X9_act_82 {d : Nat} {w : zm} {F : zm → Prop} (a1 : Int32) (a2 : Int32) (a3 : Int32)
    (H : ((a1 = (16 : Int32) → zGo (d + 1) m_X9_act 94 [.ref 1031, .int a1, .int a2, .int a3] [] (yz w) (zKv F)) ∧ (¬ a1 = (16 : Int32) → ((a1 = (17 : Int32) → zGo (d + 1) m_X9_act 94 [.ref 1031, .int a1, .int a2, .int a3] [] (yz w) (zKv F)) ∧ (¬ a1 = (17 : Int32) → zGo d m_X9_move 0 [.ref 1031, .int a1, .int a3, zJ] [] (yz w) (zKv fun w1 => zGo (d + 1) m_X9_act 130 [.ref 1031, .int a1, .int a2, .int a3] [] (yz w1) (zKv F))))))) :
    zGo (d + 1) m_X9_act 82 [.ref 1031, .int a1, .int a2, .int a3] [] (yz w) (zKv F) := by
  refine g_s (pc' := 83) rfl ?_
  refine g_psh (pc' := 85) (v' := .int 16) rfl (congrArg Value.int kc_b16) ?_
  refine g_iceq (pc' := 88) rfl rfl (fun hc => ?_) (fun hc => ?_)
  · replace H := H.1 hc
    exact H
  · replace H := H.2 hc
    refine g_s (pc' := 89) rfl ?_
    refine g_psh (pc' := 91) (v' := .int 17) rfl (congrArg Value.int kc_b17) ?_
    refine g_icne (pc' := 94) rfl rfl (fun hc => ?_) (fun hc => ?_)
    · replace H := H.1 hc
      exact H
    · replace H := H.2 hc
      refine g_s (pc' := 125) rfl ?_
      refine g_s (pc' := 126) rfl ?_
      refine g_s (pc' := 127) rfl ?_
      refine g_callv (a := m_X9_move) (as := [.ref 1031, .int a1, .int a3]) (rest := []) (ls0 := [.ref 1031, .int a1, .int a3, zJ]) (pc' := 130) (t_virt rfl rfl rfl rfl rfl rfl) rfl rfl rfl ?_
      refine zGo.mono H (zKv_mono ?_)
      intro w1 H
      exact H
set_option maxHeartbeats 4000000 in
theorem B_X9_act_94 {d : Nat} {w : zm} {F : zm → Prop} (a1 : Int32) (a2 : Int32) (a3 : Int32)
    (H : (zin ((yI w 1031 9) - (1 : Int32)) 20) ∧ zGo d m_X9_reckon 0 [.int a1, .int (yA w 1034 (Int32.toNatClampNeg ((yI w 1031 9) - (1 : Int32)))), .int (0 : Int32)] [] (yz w) (zKi fun v3 w2 => (zin ((yI w 1031 9) - (1 : Int32)) 20) ∧ zGo (d + 1) m_X9_act 130 [.ref 1031, .int a1, .int a2, .int a3] [] (yz (yuA w2 1034 (Int32.toNatClampNeg ((yI w 1031 9) - (1 : Int32))) v3)) (zKv F))) :
    zGo (d + 1) m_X9_act 94 [.ref 1031, .int a1, .int a2, .int a3] [] (yz w) (zKv F) := by
  refine g_s (pc' := 95) rfl ?_
  refine g_getf (pc' := 98) (v := .ref 1034) rfl rfl rfl rfl rfl ?_
  refine g_s (pc' := 99) rfl ?_
  refine g_getf (pc' := 102) (v := .int (yI w 1031 9)) rfl rfl rfl rfl rfl ?_
  refine g_psh (pc' := 103) (v' := .int 1) rfl (congrArg Value.int kc_i1) ?_
  refine g_s (pc' := 104) (st' := [.int ((yI w 1031 9) - (1 : Int32)), .ref 1034]) rfl ?_
  refine g_s (pc' := 105) rfl ?_
  refine g_s (pc' := 106) rfl ?_
  refine g_getf (pc' := 109) (v := .ref 1034) rfl rfl rfl rfl rfl ?_
  refine g_s (pc' := 110) rfl ?_
  refine g_getf (pc' := 113) (v := .int (yI w 1031 9)) rfl rfl rfl rfl rfl ?_
  refine g_psh (pc' := 114) (v' := .int 1) rfl (congrArg Value.int kc_i1) ?_
  refine g_s (pc' := 115) (st' := [.int ((yI w 1031 9) - (1 : Int32)), .ref 1034, .int a1, .int ((yI w 1031 9) - (1 : Int32)), .ref 1034]) rfl ?_
  obtain ⟨hi1, H⟩ := H
  refine g_iald (pc' := 116) rfl rfl rfl rfl rfl (Or.inl rfl) hi1 ?_
  refine g_psh (pc' := 117) (v' := .int 0) rfl (congrArg Value.int kc_i0) ?_
  refine g_calli (a := m_X9_reckon) (as := [.int a1, .int (yA w 1034 (Int32.toNatClampNeg ((yI w 1031 9) - (1 : Int32)))), .int (0 : Int32)]) (rest := [.int ((yI w 1031 9) - (1 : Int32)), .ref 1034]) (ls0 := [.int a1, .int (yA w 1034 (Int32.toNatClampNeg ((yI w 1031 9) - (1 : Int32)))), .int (0 : Int32)]) (pc' := 120) (t_stat rfl (Or.inl rfl) rfl rfl rfl rfl) rfl rfl rfl ?_
  refine zGo.mono H (zKi_mono ?_)
  intro v3 w2 H
  obtain ⟨hi4, H⟩ := H
  refine g_iast (pc' := 121) rfl rfl rfl rfl rfl rfl hi4 ?_
  refine g_s (pc' := 130) rfl ?_
  exact H
set_option maxHeartbeats 4000000 in
theorem B_X9_act_130 {d : Nat} {w : zm} {F : zm → Prop} (a1 : Int32) (a2 : Int32) (a3 : Int32)
    (H : F (yuL (yuI w 1031 6 a2) 1031 13 ((yL w 1031 13) + (1 : Int64)))) :
    zGo (d + 1) m_X9_act 130 [.ref 1031, .int a1, .int a2, .int a3] [] (yz w) (zKv F) := by
  refine g_s (pc' := 131) rfl ?_
  refine g_s (pc' := 132) rfl ?_
  refine g_putI (pc' := 135) rfl rfl rfl rfl rfl rfl (fun _ => rfl) ?_
  refine g_s (pc' := 136) rfl ?_
  refine g_s (pc' := 137) rfl ?_
  refine g_getf (pc' := 140) (v := .long (yL w 1031 13)) rfl rfl rfl rfl rfl ?_
  refine g_psh (pc' := 141) (v' := .long 1) rfl (congrArg Value.long kc_l1) ?_
  refine g_s (pc' := 142) (st' := [.long ((yL w 1031 13) + (1 : Int64)), .ref 1031]) rfl ?_
  refine g_putL (pc' := 145) rfl rfl rfl rfl rfl rfl (fun _ => rfl) ?_
  exact g_retv rfl rfl H
set_option maxHeartbeats 4000000 in
theorem B_X9_address_0 {d : Nat} {w : zm} {F : Int32 → zm → Prop} 
    (H : F (yI w 1031 6) (yuI w 1031 1 (0 : Int32))) :
    zGo d m_X9_address 0 [.ref 1031] [] (yz w) (zKi F) := by
  refine g_s (pc' := 1) rfl ?_
  refine g_psh (pc' := 2) (v' := .int 0) rfl (congrArg Value.int kc_i0) ?_
  refine g_putI (pc' := 5) rfl rfl rfl rfl rfl rfl (fun _ => rfl) ?_
  refine g_s (pc' := 6) rfl ?_
  refine g_getf (pc' := 9) (v := .int (yI w 1031 6)) rfl rfl rfl rfl rfl ?_
  exact g_reti rfl rfl H
set_option maxHeartbeats 4000000 in
theorem B_X9_argument_0 {d : Nat} {w : zm} {F : Int32 → zm → Prop} (a1 : Int32)
    (H : (zin a1 200) ∧ F ((yA w 1032 (Int32.toNatClampNeg a1)) >>> ((6 : Int32) &&& 31)) w) :
    zGo d m_X9_argument 0 [.ref 1031, .int a1] [] (yz w) (zKi F) := by
  refine g_s (pc' := 1) rfl ?_
  refine g_getf (pc' := 4) (v := .ref 1032) rfl rfl rfl rfl rfl ?_
  refine g_s (pc' := 5) rfl ?_
  obtain ⟨hi1, H⟩ := H
  refine g_iald (pc' := 6) rfl rfl rfl rfl rfl (Or.inl rfl) hi1 ?_
  refine g_psh (pc' := 8) (v' := .int 6) rfl (congrArg Value.int kc_b6) ?_
  refine g_s (pc' := 9) (st' := [.int ((yA w 1032 (Int32.toNatClampNeg a1)) >>> ((6 : Int32) &&& 31))]) rfl ?_
  exact g_reti rfl rfl H
set_option maxHeartbeats 4000000 in
theorem B_X9_at_0 {d : Nat} {w : zm} {F : Int32 → zm → Prop} (a1 : Int32) (a2 : Int32)
    (H : F a1 (yuI w 1031 5 a2)) :
    zGo d m_X9_at 0 [.ref 1031, .int a1, .int a2] [] (yz w) (zKi F) := by
  refine g_s (pc' := 1) rfl ?_
  refine g_s (pc' := 2) rfl ?_
  refine g_putI (pc' := 5) rfl rfl rfl rfl rfl rfl (fun _ => rfl) ?_
  refine g_s (pc' := 6) rfl ?_
  exact g_reti rfl rfl H
set_option maxHeartbeats 4000000 in
theorem B_X9_begin_0 {d : Nat} {w : zm} {F : zm → Prop} (a1 : Int32) (a2 : Int32) (a3 : Int32)
    (H : F (yuL (yuI (yuI (yuI (yuI (yuI w 1031 42 a1) 1031 43 a2) 1031 44 a3) 1031 45 (yI w 1031 9)) 1031 46 (0 : Int32)) 1031 17 ((yL w 1031 17) + (1 : Int64)))) :
    zGo d m_X9_begin 0 [.ref 1031, .int a1, .int a2, .int a3] [] (yz w) (zKv F) := by
  refine g_s (pc' := 1) rfl ?_
  refine g_s (pc' := 2) rfl ?_
  refine g_putI (pc' := 5) rfl rfl rfl rfl rfl rfl (fun _ => rfl) ?_
  refine g_s (pc' := 6) rfl ?_
  refine g_s (pc' := 7) rfl ?_
  refine g_putI (pc' := 10) rfl rfl rfl rfl rfl rfl (fun _ => rfl) ?_
  refine g_s (pc' := 11) rfl ?_
  refine g_s (pc' := 12) rfl ?_
  refine g_putI (pc' := 15) rfl rfl rfl rfl rfl rfl (fun _ => rfl) ?_
  refine g_s (pc' := 16) rfl ?_
  refine g_s (pc' := 17) rfl ?_
  refine g_getf (pc' := 20) (v := .int (yI w 1031 9)) rfl rfl rfl rfl rfl ?_
  refine g_putI (pc' := 23) rfl rfl rfl rfl rfl rfl (fun _ => rfl) ?_
  refine g_s (pc' := 24) rfl ?_
  refine g_psh (pc' := 25) (v' := .int 0) rfl (congrArg Value.int kc_i0) ?_
  refine g_putI (pc' := 28) rfl rfl rfl rfl rfl rfl (fun _ => rfl) ?_
  refine g_s (pc' := 29) rfl ?_
  refine g_s (pc' := 30) rfl ?_
  refine g_getf (pc' := 33) (v := .long (yL w 1031 17)) rfl rfl rfl rfl rfl ?_
  refine g_psh (pc' := 34) (v' := .long 1) rfl (congrArg Value.long kc_l1) ?_
  refine g_s (pc' := 35) (st' := [.long ((yL w 1031 17) + (1 : Int64)), .ref 1031]) rfl ?_
  refine g_putL (pc' := 38) rfl rfl rfl rfl rfl rfl (fun _ => rfl) ?_
  exact g_retv rfl rfl H
set_option maxHeartbeats 4000000 in
theorem B_X9_breaks_0 {d : Nat} {w : zm} {F : Int32 → zm → Prop} 
    (H : zGo d m_X9_op 0 [.ref 1031, .int (yI w 1031 6)] [] (yz w) (zKi fun v2 w1 => ((v2 = (7 : Int32) → zGo (d + 1) m_X9_breaks 26 [.ref 1031] [] (yz w1) (zKi F)) ∧ (¬ v2 = (7 : Int32) → zGo d m_X9_op 0 [.ref 1031, .int (yI w1 1031 6)] [] (yz w1) (zKi fun v4 w3 => ((v4 = (8 : Int32) → zGo (d + 1) m_X9_breaks 26 [.ref 1031] [] (yz w3) (zKi F)) ∧ (¬ v4 = (8 : Int32) → F (0 : Int32) w3))))))) :
    zGo (d + 1) m_X9_breaks 0 [.ref 1031] [] (yz w) (zKi F) := by
  refine g_s (pc' := 1) rfl ?_
  refine g_s (pc' := 2) rfl ?_
  refine g_getf (pc' := 5) (v := .int (yI w 1031 6)) rfl rfl rfl rfl rfl ?_
  refine g_calli (a := m_X9_op) (as := [.ref 1031, .int (yI w 1031 6)]) (rest := []) (ls0 := [.ref 1031, .int (yI w 1031 6)]) (pc' := 8) (t_virt rfl rfl rfl rfl rfl rfl) rfl rfl rfl ?_
  refine zGo.mono H (zKi_mono ?_)
  intro v2 w1 H
  refine g_psh (pc' := 10) (v' := .int 7) rfl (congrArg Value.int kc_b7) ?_
  refine g_iceq (pc' := 13) rfl rfl (fun hc => ?_) (fun hc => ?_)
  · replace H := H.1 hc
    exact H
  · replace H := H.2 hc
    refine g_s (pc' := 14) rfl ?_
    refine g_s (pc' := 15) rfl ?_
    refine g_getf (pc' := 18) (v := .int (yI w1 1031 6)) rfl rfl rfl rfl rfl ?_
    refine g_calli (a := m_X9_op) (as := [.ref 1031, .int (yI w1 1031 6)]) (rest := []) (ls0 := [.ref 1031, .int (yI w1 1031 6)]) (pc' := 21) (t_virt rfl rfl rfl rfl rfl rfl) rfl rfl rfl ?_
    refine zGo.mono H (zKi_mono ?_)
    intro v4 w3 H
    refine g_psh (pc' := 23) (v' := .int 8) rfl (congrArg Value.int kc_b8) ?_
    refine g_icne (pc' := 26) rfl rfl (fun hc => ?_) (fun hc => ?_)
    · replace H := H.1 hc
      exact H
    · replace H := H.2 hc
      refine g_psh (pc' := 45) (v' := .int 0) rfl (congrArg Value.int kc_i0) ?_
      exact g_reti rfl (zbool _ (Or.inl rfl)) H
set_option maxHeartbeats 4000000 in
theorem B_X9_breaks_26 {d : Nat} {w : zm} {F : Int32 → zm → Prop} 
    (H : (zin ((yI w 1031 9) - (1 : Int32)) 20) ∧ (((yA w 1034 (Int32.toNatClampNeg ((yI w 1031 9) - (1 : Int32)))) = 0 → F (1 : Int32) w) ∧ (¬ (yA w 1034 (Int32.toNatClampNeg ((yI w 1031 9) - (1 : Int32)))) = 0 → F (0 : Int32) w))) :
    zGo (d + 1) m_X9_breaks 26 [.ref 1031] [] (yz w) (zKi F) := by
  refine g_s (pc' := 27) rfl ?_
  refine g_getf (pc' := 30) (v := .ref 1034) rfl rfl rfl rfl rfl ?_
  refine g_s (pc' := 31) rfl ?_
  refine g_getf (pc' := 34) (v := .int (yI w 1031 9)) rfl rfl rfl rfl rfl ?_
  refine g_psh (pc' := 35) (v' := .int 1) rfl (congrArg Value.int kc_i1) ?_
  refine g_s (pc' := 36) (st' := [.int ((yI w 1031 9) - (1 : Int32)), .ref 1034]) rfl ?_
  obtain ⟨hi1, H⟩ := H
  refine g_iald (pc' := 37) rfl rfl rfl rfl rfl (Or.inl rfl) hi1 ?_
  refine g_ifne (pc' := 40) rfl rfl (fun hc => ?_) (fun hc => ?_)
  · replace H := H.1 hc
    refine g_psh (pc' := 41) (v' := .int 1) rfl (congrArg Value.int kc_i1) ?_
    refine g_s (pc' := 45) rfl ?_
    exact g_reti rfl (zbool _ (Or.inr rfl)) H
  · replace H := H.2 hc
    refine g_psh (pc' := 45) (v' := .int 0) rfl (congrArg Value.int kc_i0) ?_
    exact g_reti rfl (zbool _ (Or.inl rfl)) H
set_option maxHeartbeats 4000000 in
theorem B_X9_choice_0 {d : Nat} {w : zm} {F : Int32 → zm → Prop} 
    (H : zGo d m_X9_op 0 [.ref 1031, .int (yI w 1031 6)] [] (yz w) (zKi fun v2 w1 => ((v2 = (22 : Int32) → zGo (d + 1) m_X9_choice 25 [.ref 1031, .int v2] [] (yz w1) (zKi F)) ∧ (¬ v2 = (22 : Int32) → ((v2 = (23 : Int32) → zGo (d + 1) m_X9_choice 25 [.ref 1031, .int v2] [] (yz w1) (zKi F)) ∧ (¬ v2 = (23 : Int32) → F (-1 : Int32) w1)))))) :
    zGo (d + 1) m_X9_choice 0 [.ref 1031, zJ] [] (yz w) (zKi F) := by
  refine g_s (pc' := 1) rfl ?_
  refine g_s (pc' := 2) rfl ?_
  refine g_getf (pc' := 5) (v := .int (yI w 1031 6)) rfl rfl rfl rfl rfl ?_
  refine g_calli (a := m_X9_op) (as := [.ref 1031, .int (yI w 1031 6)]) (rest := []) (ls0 := [.ref 1031, .int (yI w 1031 6)]) (pc' := 8) (t_virt rfl rfl rfl rfl rfl rfl) rfl rfl rfl ?_
  refine zGo.mono H (zKi_mono ?_)
  intro v2 w1 H
  refine g_ist (k := 1) (pc' := 9) (ls' := [.ref 1031, .int v2]) rfl rfl rfl rfl (zst1_of rfl (Or.inr rfl) rfl) ?_
  refine g_s (pc' := 10) rfl ?_
  refine g_psh (pc' := 12) (v' := .int 22) rfl (congrArg Value.int kc_b22) ?_
  refine g_iceq (pc' := 15) rfl rfl (fun hc => ?_) (fun hc => ?_)
  · replace H := H.1 hc
    exact H
  · replace H := H.2 hc
    refine g_s (pc' := 16) rfl ?_
    refine g_psh (pc' := 18) (v' := .int 23) rfl (congrArg Value.int kc_b23) ?_
    refine g_iceq (pc' := 21) rfl rfl (fun hc => ?_) (fun hc => ?_)
    · replace H := H.1 hc
      exact H
    · replace H := H.2 hc
      refine g_psh (pc' := 22) (v' := .int (-1)) rfl (congrArg Value.int kc_im1) ?_
      refine g_s (pc' := 44) rfl ?_
      exact g_reti rfl rfl H
set_option maxHeartbeats 4000000 in
theorem B_X9_choice_25 {d : Nat} {w : zm} {F : Int32 → zm → Prop} (a1 : Int32)
    (H : (zin ((yI w 1031 9) - (1 : Int32)) 20) ∧ (((yA w 1034 (Int32.toNatClampNeg ((yI w 1031 9) - (1 : Int32)))) = 0 → F (0 : Int32) w) ∧ (¬ (yA w 1034 (Int32.toNatClampNeg ((yI w 1031 9) - (1 : Int32)))) = 0 → F (1 : Int32) w))) :
    zGo (d + 1) m_X9_choice 25 [.ref 1031, .int a1] [] (yz w) (zKi F) := by
  refine g_s (pc' := 26) rfl ?_
  refine g_getf (pc' := 29) (v := .ref 1034) rfl rfl rfl rfl rfl ?_
  refine g_s (pc' := 30) rfl ?_
  refine g_getf (pc' := 33) (v := .int (yI w 1031 9)) rfl rfl rfl rfl rfl ?_
  refine g_psh (pc' := 34) (v' := .int 1) rfl (congrArg Value.int kc_i1) ?_
  refine g_s (pc' := 35) (st' := [.int ((yI w 1031 9) - (1 : Int32)), .ref 1034]) rfl ?_
  obtain ⟨hi1, H⟩ := H
  refine g_iald (pc' := 36) rfl rfl rfl rfl rfl (Or.inl rfl) hi1 ?_
  refine g_ifeq (pc' := 39) rfl rfl (fun hc => ?_) (fun hc => ?_)
  · replace H := H.1 hc
    refine g_psh (pc' := 44) (v' := .int 0) rfl (congrArg Value.int kc_i0) ?_
    exact g_reti rfl rfl H
  · replace H := H.2 hc
    refine g_psh (pc' := 40) (v' := .int 1) rfl (congrArg Value.int kc_i1) ?_
    refine g_s (pc' := 44) rfl ?_
    exact g_reti rfl rfl H
set_option maxHeartbeats 4000000 in
theorem B_X9_constantOf_0 {d : Nat} {w : zm} {F : Int32 → zm → Prop} (a1 : Int32)
    (H : zGo (d + 1) m_X9_constantOf 2 [.ref 1031, .int a1, .int (0 : Int32)] [] (yz w) (zKi F)) :
    zGo (d + 1) m_X9_constantOf 0 [.ref 1031, .int a1, zJ] [] (yz w) (zKi F) := by
  refine g_psh (pc' := 1) (v' := .int 0) rfl (congrArg Value.int kc_i0) ?_
  refine g_ist (k := 2) (pc' := 2) (ls' := [.ref 1031, .int a1, .int (0 : Int32)]) rfl rfl rfl rfl (zst1_of rfl (Or.inr rfl) rfl) ?_
  exact H
set_option maxHeartbeats 4000000 in
theorem B_X9_constantOf_2 {d : Nat} {w : zm} {F : Int32 → zm → Prop} (a1 : Int32) (a2 : Int32)
    (H : ((a2 < (yI w 1031 55) → (zin a2 400) ∧ (((yA w 1064 (Int32.toNatClampNeg a2)) = 0 → zGo (d + 1) m_X9_constantOf 2 [.ref 1031, .int a1, .int (a2 + 1)] [] (yz w) (zKi F)) ∧ (¬ (yA w 1064 (Int32.toNatClampNeg a2)) = 0 → (zin a2 400) ∧ (((yA w 1065 (Int32.toNatClampNeg a2)) = a1 → F a2 w) ∧ (¬ (yA w 1065 (Int32.toNatClampNeg a2)) = a1 → zGo (d + 1) m_X9_constantOf 2 [.ref 1031, .int a1, .int (a2 + 1)] [] (yz w) (zKi F)))))) ∧ (¬ a2 < (yI w 1031 55) → zGo d m_X9_value 0 [.ref 1031] [] (yz w) (zKi fun v4 w3 => (zin v4 400) ∧ (zin v4 400) ∧ F v4 (yuA (yuA w3 1064 (Int32.toNatClampNeg v4) (1 : Int32)) 1065 (Int32.toNatClampNeg v4) a1))))) :
    zGo (d + 1) m_X9_constantOf 2 [.ref 1031, .int a1, .int a2] [] (yz w) (zKi F) := by
  refine g_s (pc' := 3) rfl ?_
  refine g_s (pc' := 4) rfl ?_
  refine g_getf (pc' := 7) (v := .int (yI w 1031 55)) rfl rfl rfl rfl rfl ?_
  refine g_icge (pc' := 10) rfl rfl (fun hc => ?_) (fun hc => ?_)
  · replace H := H.1 hc
    refine g_s (pc' := 11) rfl ?_
    refine g_getf (pc' := 14) (v := .ref 1064) rfl rfl rfl rfl rfl ?_
    refine g_s (pc' := 15) rfl ?_
    obtain ⟨hi1, H⟩ := H
    refine g_zald (pc' := 16) rfl rfl rfl rfl rfl hi1 ?_
    refine g_ifeq (pc' := 19) rfl rfl (fun hc => ?_) (fun hc => ?_)
    · replace H := H.1 hc
      refine g_inc (pc' := 34) (ls' := [.ref 1031, .int a1, .int (a2 + 1)]) rfl rfl rfl kc_i1 (zst1_of rfl (Or.inr rfl) rfl) ?_
      refine g_s (pc' := 2) rfl ?_
      exact H
    · replace H := H.2 hc
      refine g_s (pc' := 20) rfl ?_
      refine g_getf (pc' := 23) (v := .ref 1065) rfl rfl rfl rfl rfl ?_
      refine g_s (pc' := 24) rfl ?_
      obtain ⟨hi2, H⟩ := H
      refine g_iald (pc' := 25) rfl rfl rfl rfl rfl (Or.inl rfl) hi2 ?_
      refine g_s (pc' := 26) rfl ?_
      refine g_icne (pc' := 29) rfl rfl (fun hc => ?_) (fun hc => ?_)
      · replace H := H.1 hc
        refine g_s (pc' := 30) rfl ?_
        exact g_reti rfl rfl H
      · replace H := H.2 hc
        refine g_inc (pc' := 34) (ls' := [.ref 1031, .int a1, .int (a2 + 1)]) rfl rfl rfl kc_i1 (zst1_of rfl (Or.inr rfl) rfl) ?_
        refine g_s (pc' := 2) rfl ?_
        exact H
  · replace H := H.2 hc
    refine g_s (pc' := 38) rfl ?_
    refine g_calli (a := m_X9_value) (as := [.ref 1031]) (rest := []) (ls0 := [.ref 1031]) (pc' := 41) (t_virt rfl rfl rfl rfl rfl rfl) rfl rfl rfl ?_
    refine zGo.mono H (zKi_mono ?_)
    intro v4 w3 H
    refine g_ist (k := 2) (pc' := 42) (ls' := [.ref 1031, .int a1, .int v4]) rfl rfl rfl rfl (zst1_of rfl (Or.inr rfl) rfl) ?_
    refine g_s (pc' := 43) rfl ?_
    refine g_getf (pc' := 46) (v := .ref 1064) rfl rfl rfl rfl rfl ?_
    refine g_s (pc' := 47) rfl ?_
    refine g_psh (pc' := 48) (v' := .int 1) rfl (congrArg Value.int kc_i1) ?_
    obtain ⟨hi5, H⟩ := H
    refine g_zast (pc' := 49) rfl rfl rfl rfl rfl rfl hi5 kz_1 ?_
    refine g_s (pc' := 50) rfl ?_
    refine g_getf (pc' := 53) (v := .ref 1065) rfl rfl rfl rfl rfl ?_
    refine g_s (pc' := 54) rfl ?_
    refine g_s (pc' := 55) rfl ?_
    obtain ⟨hi6, H⟩ := H
    refine g_iast (pc' := 56) rfl rfl rfl rfl rfl rfl hi6 ?_
    refine g_s (pc' := 57) rfl ?_
    exact g_reti rfl rfl H
set_option maxHeartbeats 4000000 in
theorem B_X9_cutOff_0 {d : Nat} {w : zm} {F : zm → Prop} 
    (H : (((yI w 1031 43) < 0 → (zin (yI w 1031 42) 200) ∧ (zin (yI w 1031 42) 200) ∧ (zin (yI w 1031 42) 200) ∧ F (yuI (yuA (yuA (yuL w 1031 18 ((yL w 1031 18) + (1 : Int64))) 1037 (Int32.toNatClampNeg (yI w 1031 42)) (0 : Int32)) 1038 (Int32.toNatClampNeg (yI w 1031 42)) ((yA w 1038 (Int32.toNatClampNeg (yI w 1031 42))) + (1 : Int32))) 1031 42 (-1 : Int32))) ∧ (¬ (yI w 1031 43) < 0 → (zin (((yI w 1031 43) * (48 : Int32)) + (yI w 1031 44)) 768) ∧ (zin (((yI w 1031 43) * (48 : Int32)) + (yI w 1031 44)) 768) ∧ (zin (((yI w 1031 43) * (48 : Int32)) + (yI w 1031 44)) 768) ∧ F (yuI (yuA (yuA (yuL w 1031 18 ((yL w 1031 18) + (1 : Int64))) 1051 (Int32.toNatClampNeg (((yI w 1031 43) * (48 : Int32)) + (yI w 1031 44))) ((yA w 1051 (Int32.toNatClampNeg (((yI w 1031 43) * (48 : Int32)) + (yI w 1031 44)))) + (1 : Int32))) 1050 (Int32.toNatClampNeg (((yI w 1031 43) * (48 : Int32)) + (yI w 1031 44))) (0 : Int32)) 1031 42 (-1 : Int32))))) :
    zGo d m_X9_cutOff 0 [.ref 1031] [] (yz w) (zKv F) := by
  refine g_s (pc' := 1) rfl ?_
  refine g_s (pc' := 2) rfl ?_
  refine g_getf (pc' := 5) (v := .long (yL w 1031 18)) rfl rfl rfl rfl rfl ?_
  refine g_psh (pc' := 6) (v' := .long 1) rfl (congrArg Value.long kc_l1) ?_
  refine g_s (pc' := 7) (st' := [.long ((yL w 1031 18) + (1 : Int64)), .ref 1031]) rfl ?_
  refine g_putL (pc' := 10) rfl rfl rfl rfl rfl rfl (fun _ => rfl) ?_
  refine g_s (pc' := 11) rfl ?_
  refine g_getf (pc' := 14) (v := .int (yI w 1031 43)) rfl rfl rfl rfl rfl ?_
  refine g_iflt (pc' := 17) rfl rfl (fun hc => ?_) (fun hc => ?_)
  · replace H := H.1 hc
    refine g_s (pc' := 60) rfl ?_
    refine g_getf (pc' := 63) (v := .ref 1037) rfl rfl rfl rfl rfl ?_
    refine g_s (pc' := 64) rfl ?_
    refine g_getf (pc' := 67) (v := .int (yI w 1031 42)) rfl rfl rfl rfl rfl ?_
    refine g_psh (pc' := 68) (v' := .int 0) rfl (congrArg Value.int kc_i0) ?_
    obtain ⟨hi1, H⟩ := H
    refine g_iast (pc' := 69) rfl rfl rfl rfl rfl rfl hi1 ?_
    refine g_s (pc' := 70) rfl ?_
    refine g_getf (pc' := 73) (v := .ref 1038) rfl rfl rfl rfl rfl ?_
    refine g_s (pc' := 74) rfl ?_
    refine g_getf (pc' := 77) (v := .int (yI w 1031 42)) rfl rfl rfl rfl rfl ?_
    refine g_s (pc' := 78) rfl ?_
    obtain ⟨hi2, H⟩ := H
    refine g_iald (pc' := 79) rfl rfl rfl rfl rfl (Or.inl rfl) hi2 ?_
    refine g_psh (pc' := 80) (v' := .int 1) rfl (congrArg Value.int kc_i1) ?_
    refine g_s (pc' := 81) (st' := [.int ((yA w 1038 (Int32.toNatClampNeg (yI w 1031 42))) + (1 : Int32)), .int (yI w 1031 42), .ref 1038]) rfl ?_
    obtain ⟨hi3, H⟩ := H
    refine g_iast (pc' := 82) rfl rfl rfl rfl rfl rfl hi3 ?_
    refine g_s (pc' := 83) rfl ?_
    refine g_psh (pc' := 84) (v' := .int (-1)) rfl (congrArg Value.int kc_im1) ?_
    refine g_putI (pc' := 87) rfl rfl rfl rfl rfl rfl (fun _ => rfl) ?_
    exact g_retv rfl rfl H
  · replace H := H.2 hc
    refine g_s (pc' := 18) rfl ?_
    refine g_getf (pc' := 21) (v := .ref 1051) rfl rfl rfl rfl rfl ?_
    refine g_s (pc' := 22) rfl ?_
    refine g_getf (pc' := 25) (v := .int (yI w 1031 43)) rfl rfl rfl rfl rfl ?_
    refine g_psh (pc' := 27) (v' := .int 48) rfl (congrArg Value.int kc_b48) ?_
    refine g_s (pc' := 28) (st' := [.int ((yI w 1031 43) * (48 : Int32)), .ref 1051]) rfl ?_
    refine g_s (pc' := 29) rfl ?_
    refine g_getf (pc' := 32) (v := .int (yI w 1031 44)) rfl rfl rfl rfl rfl ?_
    refine g_s (pc' := 33) (st' := [.int (((yI w 1031 43) * (48 : Int32)) + (yI w 1031 44)), .ref 1051]) rfl ?_
    refine g_s (pc' := 34) rfl ?_
    obtain ⟨hi4, H⟩ := H
    refine g_iald (pc' := 35) rfl rfl rfl rfl rfl (Or.inl rfl) hi4 ?_
    refine g_psh (pc' := 36) (v' := .int 1) rfl (congrArg Value.int kc_i1) ?_
    refine g_s (pc' := 37) (st' := [.int ((yA w 1051 (Int32.toNatClampNeg (((yI w 1031 43) * (48 : Int32)) + (yI w 1031 44)))) + (1 : Int32)), .int (((yI w 1031 43) * (48 : Int32)) + (yI w 1031 44)), .ref 1051]) rfl ?_
    obtain ⟨hi5, H⟩ := H
    refine g_iast (pc' := 38) rfl rfl rfl rfl rfl rfl hi5 ?_
    refine g_s (pc' := 39) rfl ?_
    refine g_getf (pc' := 42) (v := .ref 1050) rfl rfl rfl rfl rfl ?_
    refine g_s (pc' := 43) rfl ?_
    refine g_getf (pc' := 46) (v := .int (yI w 1031 43)) rfl rfl rfl rfl rfl ?_
    refine g_psh (pc' := 48) (v' := .int 48) rfl (congrArg Value.int kc_b48) ?_
    refine g_s (pc' := 49) (st' := [.int ((yI w 1031 43) * (48 : Int32)), .ref 1050]) rfl ?_
    refine g_s (pc' := 50) rfl ?_
    refine g_getf (pc' := 53) (v := .int (yI w 1031 44)) rfl rfl rfl rfl rfl ?_
    refine g_s (pc' := 54) (st' := [.int (((yI w 1031 43) * (48 : Int32)) + (yI w 1031 44)), .ref 1050]) rfl ?_
    refine g_psh (pc' := 55) (v' := .int 0) rfl (congrArg Value.int kc_i0) ?_
    obtain ⟨hi6, H⟩ := H
    refine g_iast (pc' := 56) rfl rfl rfl rfl rfl rfl hi6 ?_
    refine g_s (pc' := 82) rfl ?_
    refine g_s (pc' := 83) rfl ?_
    refine g_psh (pc' := 84) (v' := .int (-1)) rfl (congrArg Value.int kc_im1) ?_
    refine g_putI (pc' := 87) rfl rfl rfl rfl rfl rfl (fun _ => rfl) ?_
    exact g_retv rfl rfl H
set_option maxHeartbeats 4000000 in
theorem B_X9_emitted_0 {d : Nat} {w : zm} {F : Int32 → zm → Prop} 
    (H : F (yI w 1031 12) (yuI w 1031 1 (0 : Int32))) :
    zGo d m_X9_emitted 0 [.ref 1031] [] (yz w) (zKi F) := by
  refine g_s (pc' := 1) rfl ?_
  refine g_psh (pc' := 2) (v' := .int 0) rfl (congrArg Value.int kc_i0) ?_
  refine g_putI (pc' := 5) rfl rfl rfl rfl rfl rfl (fun _ => rfl) ?_
  refine g_s (pc' := 6) rfl ?_
  refine g_getf (pc' := 9) (v := .int (yI w 1031 12)) rfl rfl rfl rfl rfl ?_
  exact g_reti rfl rfl H
set_option maxHeartbeats 4000000 in
theorem B_X9_find_0 {d : Nat} {w : zm} {F : Int32 → zm → Prop} (a1 : Int32) (a2 : Int32) (a3 : Int32)
    (H : ((a1 = (16 : Int32) → zGo (d + 1) m_X9_find 17 [.ref 1031, .int a1, .int a2, .int a3, zJ, zJ] [.int (1 : Int32)] (yz w) (zKi F)) ∧ (¬ a1 = (16 : Int32) → ((a1 = (17 : Int32) → zGo (d + 1) m_X9_find 17 [.ref 1031, .int a1, .int a2, .int a3, zJ, zJ] [.int (1 : Int32)] (yz w) (zKi F)) ∧ (¬ a1 = (17 : Int32) → zGo (d + 1) m_X9_find 17 [.ref 1031, .int a1, .int a2, .int a3, zJ, zJ] [.int (0 : Int32)] (yz w) (zKi F)))))) :
    zGo (d + 1) m_X9_find 0 [.ref 1031, .int a1, .int a2, .int a3, zJ, zJ] [] (yz w) (zKi F) := by
  refine g_s (pc' := 1) rfl ?_
  refine g_psh (pc' := 3) (v' := .int 16) rfl (congrArg Value.int kc_b16) ?_
  refine g_iceq (pc' := 6) rfl rfl (fun hc => ?_) (fun hc => ?_)
  · replace H := H.1 hc
    refine g_psh (pc' := 13) (v' := .int 1) rfl (congrArg Value.int kc_i1) ?_
    refine g_s (pc' := 17) rfl ?_
    exact H
  · replace H := H.2 hc
    refine g_s (pc' := 7) rfl ?_
    refine g_psh (pc' := 9) (v' := .int 17) rfl (congrArg Value.int kc_b17) ?_
    refine g_icne (pc' := 12) rfl rfl (fun hc => ?_) (fun hc => ?_)
    · replace H := H.1 hc
      refine g_psh (pc' := 13) (v' := .int 1) rfl (congrArg Value.int kc_i1) ?_
      refine g_s (pc' := 17) rfl ?_
      exact H
    · replace H := H.2 hc
      refine g_psh (pc' := 17) (v' := .int 0) rfl (congrArg Value.int kc_i0) ?_
      exact H
set_option maxHeartbeats 4000000 in
theorem B_X9_find_17 {d : Nat} {w : zm} {F : Int32 → zm → Prop} (a1 : Int32) (a2 : Int32) (a3 : Int32) (s0 : Int32)
    (H : (zin a2 400) ∧ (((yA w 1064 (Int32.toNatClampNeg a2)) = 0 → zGo (d + 1) m_X9_find 85 [.ref 1031, .int a1, .int a2, .int a3, .int s0, .int (0 : Int32)] [] (yz w) (zKi F)) ∧ (¬ (yA w 1064 (Int32.toNatClampNeg a2)) = 0 → ((s0 = 0 → (zin a3 400) ∧ (((yA w 1064 (Int32.toNatClampNeg a3)) = 0 → zGo (d + 1) m_X9_find 85 [.ref 1031, .int a1, .int a2, .int a3, .int s0, .int (0 : Int32)] [] (yz w) (zKi F)) ∧ (¬ (yA w 1064 (Int32.toNatClampNeg a3)) = 0 → zGo (d + 1) m_X9_find 42 [.ref 1031, .int a1, .int a2, .int a3, .int s0, zJ] [] (yz w) (zKi F)))) ∧ (¬ s0 = 0 → zGo (d + 1) m_X9_find 42 [.ref 1031, .int a1, .int a2, .int a3, .int s0, zJ] [] (yz w) (zKi F)))))) :
    zGo (d + 1) m_X9_find 17 [.ref 1031, .int a1, .int a2, .int a3, zJ, zJ] [.int s0] (yz w) (zKi F) := by
  refine g_ist (k := 4) (pc' := 19) (ls' := [.ref 1031, .int a1, .int a2, .int a3, .int s0, zJ]) rfl rfl rfl rfl (zst1_of rfl (Or.inr rfl) rfl) ?_
  refine g_s (pc' := 20) rfl ?_
  refine g_getf (pc' := 23) (v := .ref 1064) rfl rfl rfl rfl rfl ?_
  refine g_s (pc' := 24) rfl ?_
  obtain ⟨hi1, H⟩ := H
  refine g_zald (pc' := 25) rfl rfl rfl rfl rfl hi1 ?_
  refine g_ifeq (pc' := 28) rfl rfl (fun hc => ?_) (fun hc => ?_)
  · replace H := H.1 hc
    refine g_psh (pc' := 83) (v' := .int 0) rfl (congrArg Value.int kc_i0) ?_
    refine g_ist (k := 5) (pc' := 85) (ls' := [.ref 1031, .int a1, .int a2, .int a3, .int s0, .int (0 : Int32)]) rfl rfl rfl rfl (zst1_of rfl (Or.inr rfl) rfl) ?_
    exact H
  · replace H := H.2 hc
    refine g_s (pc' := 30) rfl ?_
    refine g_ifne (pc' := 33) rfl rfl (fun hc => ?_) (fun hc => ?_)
    · replace H := H.1 hc
      refine g_s (pc' := 34) rfl ?_
      refine g_getf (pc' := 37) (v := .ref 1064) rfl rfl rfl rfl rfl ?_
      refine g_s (pc' := 38) rfl ?_
      obtain ⟨hi2, H⟩ := H
      refine g_zald (pc' := 39) rfl rfl rfl rfl rfl hi2 ?_
      refine g_ifeq (pc' := 42) rfl rfl (fun hc => ?_) (fun hc => ?_)
      · replace H := H.1 hc
        refine g_psh (pc' := 83) (v' := .int 0) rfl (congrArg Value.int kc_i0) ?_
        refine g_ist (k := 5) (pc' := 85) (ls' := [.ref 1031, .int a1, .int a2, .int a3, .int s0, .int (0 : Int32)]) rfl rfl rfl rfl (zst1_of rfl (Or.inr rfl) rfl) ?_
        exact H
      · replace H := H.2 hc
        exact H
    · replace H := H.2 hc
      exact H
set_option maxHeartbeats 4000000 in
theorem B_X9_find_42 {d : Nat} {w : zm} {F : Int32 → zm → Prop} (a1 : Int32) (a2 : Int32) (a3 : Int32) (a4 : Int32)
    (H : (zin a2 400) ∧ ((a4 = 0 → (zin a3 400) ∧ zGo d m_X9_reckon 0 [.int a1, .int (yA w 1065 (Int32.toNatClampNeg a2)), .int (yA w 1065 (Int32.toNatClampNeg a3))] [] (yz (yuI w 1031 53 ((yI w 1031 53) + (1 : Int32)))) (zKi fun v4 w3 => zGo d m_X9_constantOf 0 [.ref 1031, .int v4, zJ] [] (yz w3) (zKi fun v6 w5 => F v6 w5))) ∧ (¬ a4 = 0 → zGo d m_X9_reckon 0 [.int a1, .int (yA w 1065 (Int32.toNatClampNeg a2)), .int (0 : Int32)] [] (yz (yuI w 1031 53 ((yI w 1031 53) + (1 : Int32)))) (zKi fun v8 w7 => zGo d m_X9_constantOf 0 [.ref 1031, .int v8, zJ] [] (yz w7) (zKi fun v10 w9 => F v10 w9))))) :
    zGo (d + 1) m_X9_find 42 [.ref 1031, .int a1, .int a2, .int a3, .int a4, zJ] [] (yz w) (zKi F) := by
  refine g_s (pc' := 43) rfl ?_
  refine g_s (pc' := 44) rfl ?_
  refine g_getf (pc' := 47) (v := .int (yI w 1031 53)) rfl rfl rfl rfl rfl ?_
  refine g_psh (pc' := 48) (v' := .int 1) rfl (congrArg Value.int kc_i1) ?_
  refine g_s (pc' := 49) (st' := [.int ((yI w 1031 53) + (1 : Int32)), .ref 1031]) rfl ?_
  refine g_putI (pc' := 52) rfl rfl rfl rfl rfl rfl (fun _ => rfl) ?_
  refine g_s (pc' := 53) rfl ?_
  refine g_s (pc' := 54) rfl ?_
  refine g_s (pc' := 55) rfl ?_
  refine g_getf (pc' := 58) (v := .ref 1065) rfl rfl rfl rfl rfl ?_
  refine g_s (pc' := 59) rfl ?_
  obtain ⟨hi1, H⟩ := H
  refine g_iald (pc' := 60) rfl rfl rfl rfl rfl (Or.inl rfl) hi1 ?_
  refine g_s (pc' := 62) rfl ?_
  refine g_ifeq (pc' := 65) rfl rfl (fun hc => ?_) (fun hc => ?_)
  · replace H := H.1 hc
    refine g_s (pc' := 70) rfl ?_
    refine g_getf (pc' := 73) (v := .ref 1065) rfl rfl rfl rfl rfl ?_
    refine g_s (pc' := 74) rfl ?_
    obtain ⟨hi2, H⟩ := H
    refine g_iald (pc' := 75) rfl rfl rfl rfl rfl (Or.inl rfl) hi2 ?_
    refine g_calli (a := m_X9_reckon) (as := [.int a1, .int (yA w 1065 (Int32.toNatClampNeg a2)), .int (yA w 1065 (Int32.toNatClampNeg a3))]) (rest := [.ref 1031]) (ls0 := [.int a1, .int (yA w 1065 (Int32.toNatClampNeg a2)), .int (yA w 1065 (Int32.toNatClampNeg a3))]) (pc' := 78) (t_stat rfl (Or.inl rfl) rfl rfl rfl rfl) rfl rfl rfl ?_
    refine zGo.mono H (zKi_mono ?_)
    intro v4 w3 H
    refine g_calli (a := m_X9_constantOf) (as := [.ref 1031, .int v4]) (rest := []) (ls0 := [.ref 1031, .int v4, zJ]) (pc' := 81) (t_virt rfl rfl rfl rfl rfl rfl) rfl rfl rfl ?_
    refine zGo.mono H (zKi_mono ?_)
    intro v6 w5 H
    exact g_reti rfl rfl H
  · replace H := H.2 hc
    refine g_psh (pc' := 66) (v' := .int 0) rfl (congrArg Value.int kc_i0) ?_
    refine g_s (pc' := 75) rfl ?_
    refine g_calli (a := m_X9_reckon) (as := [.int a1, .int (yA w 1065 (Int32.toNatClampNeg a2)), .int (0 : Int32)]) (rest := [.ref 1031]) (ls0 := [.int a1, .int (yA w 1065 (Int32.toNatClampNeg a2)), .int (0 : Int32)]) (pc' := 78) (t_stat rfl (Or.inl rfl) rfl rfl rfl rfl) rfl rfl rfl ?_
    refine zGo.mono H (zKi_mono ?_)
    intro v8 w7 H
    refine g_calli (a := m_X9_constantOf) (as := [.ref 1031, .int v8]) (rest := []) (ls0 := [.ref 1031, .int v8, zJ]) (pc' := 81) (t_virt rfl rfl rfl rfl rfl rfl) rfl rfl rfl ?_
    refine zGo.mono H (zKi_mono ?_)
    intro v10 w9 H
    exact g_reti rfl rfl H
set_option maxHeartbeats 4000000 in
theorem B_X9_find_85 {d : Nat} {w : zm} {F : Int32 → zm → Prop} (a1 : Int32) (a2 : Int32) (a3 : Int32) (a4 : Int32) (a5 : Int32)
    (H : ((a5 < (yI w 1031 62) → (zin a5 48) ∧ (((yA w 1069 (Int32.toNatClampNeg a5)) = a1 → (zin a5 48) ∧ (((yA w 1070 (Int32.toNatClampNeg a5)) = a2 → (zin a5 48) ∧ (((yA w 1071 (Int32.toNatClampNeg a5)) = a3 → (zin a5 48) ∧ F (yA w 1072 (Int32.toNatClampNeg a5)) w) ∧ (¬ (yA w 1071 (Int32.toNatClampNeg a5)) = a3 → zGo (d + 1) m_X9_find 85 [.ref 1031, .int a1, .int a2, .int a3, .int a4, .int (a5 + 1)] [] (yz w) (zKi F)))) ∧ (¬ (yA w 1070 (Int32.toNatClampNeg a5)) = a2 → zGo (d + 1) m_X9_find 85 [.ref 1031, .int a1, .int a2, .int a3, .int a4, .int (a5 + 1)] [] (yz w) (zKi F)))) ∧ (¬ (yA w 1069 (Int32.toNatClampNeg a5)) = a1 → zGo (d + 1) m_X9_find 85 [.ref 1031, .int a1, .int a2, .int a3, .int a4, .int (a5 + 1)] [] (yz w) (zKi F)))) ∧ (¬ a5 < (yI w 1031 62) → (zin (yI w 1031 62) 48) ∧ (zin (yI w 1031 62) 48) ∧ (zin (yI w 1031 62) 48) ∧ zGo d m_X9_value 0 [.ref 1031] [] (yz (yuA (yuA (yuA w 1069 (Int32.toNatClampNeg (yI w 1031 62)) a1) 1070 (Int32.toNatClampNeg (yI w 1031 62)) a2) 1071 (Int32.toNatClampNeg (yI w 1031 62)) a3)) (zKi fun v9 w8 => (zin (yI w 1031 62) 48) ∧ (zin (yI w8 1031 62) 48) ∧ F (yA (yuA w8 1072 (Int32.toNatClampNeg (yI w 1031 62)) v9) 1072 (Int32.toNatClampNeg (yI w8 1031 62))) (yuI (yuI (yuA w8 1072 (Int32.toNatClampNeg (yI w 1031 62)) v9) 1031 52 ((yI w8 1031 52) + (1 : Int32))) 1031 62 ((yI w8 1031 62) + (1 : Int32))))))) :
    zGo (d + 1) m_X9_find 85 [.ref 1031, .int a1, .int a2, .int a3, .int a4, .int a5] [] (yz w) (zKi F) := by
  refine g_s (pc' := 87) rfl ?_
  refine g_s (pc' := 88) rfl ?_
  refine g_getf (pc' := 91) (v := .int (yI w 1031 62)) rfl rfl rfl rfl rfl ?_
  refine g_icge (pc' := 94) rfl rfl (fun hc => ?_) (fun hc => ?_)
  · replace H := H.1 hc
    refine g_s (pc' := 95) rfl ?_
    refine g_getf (pc' := 98) (v := .ref 1069) rfl rfl rfl rfl rfl ?_
    refine g_s (pc' := 100) rfl ?_
    obtain ⟨hi1, H⟩ := H
    refine g_iald (pc' := 101) rfl rfl rfl rfl rfl (Or.inl rfl) hi1 ?_
    refine g_s (pc' := 102) rfl ?_
    refine g_icne (pc' := 105) rfl rfl (fun hc => ?_) (fun hc => ?_)
    · replace H := H.1 hc
      refine g_s (pc' := 106) rfl ?_
      refine g_getf (pc' := 109) (v := .ref 1070) rfl rfl rfl rfl rfl ?_
      refine g_s (pc' := 111) rfl ?_
      obtain ⟨hi2, H⟩ := H
      refine g_iald (pc' := 112) rfl rfl rfl rfl rfl (Or.inl rfl) hi2 ?_
      refine g_s (pc' := 113) rfl ?_
      refine g_icne (pc' := 116) rfl rfl (fun hc => ?_) (fun hc => ?_)
      · replace H := H.1 hc
        refine g_s (pc' := 117) rfl ?_
        refine g_getf (pc' := 120) (v := .ref 1071) rfl rfl rfl rfl rfl ?_
        refine g_s (pc' := 122) rfl ?_
        obtain ⟨hi3, H⟩ := H
        refine g_iald (pc' := 123) rfl rfl rfl rfl rfl (Or.inl rfl) hi3 ?_
        refine g_s (pc' := 124) rfl ?_
        refine g_icne (pc' := 127) rfl rfl (fun hc => ?_) (fun hc => ?_)
        · replace H := H.1 hc
          refine g_s (pc' := 128) rfl ?_
          refine g_getf (pc' := 131) (v := .ref 1072) rfl rfl rfl rfl rfl ?_
          refine g_s (pc' := 133) rfl ?_
          obtain ⟨hi4, H⟩ := H
          refine g_iald (pc' := 134) rfl rfl rfl rfl rfl (Or.inl rfl) hi4 ?_
          exact g_reti rfl rfl H
        · replace H := H.2 hc
          refine g_inc (pc' := 138) (ls' := [.ref 1031, .int a1, .int a2, .int a3, .int a4, .int (a5 + 1)]) rfl rfl rfl kc_i1 (zst1_of rfl (Or.inr rfl) rfl) ?_
          refine g_s (pc' := 85) rfl ?_
          exact H
      · replace H := H.2 hc
        refine g_inc (pc' := 138) (ls' := [.ref 1031, .int a1, .int a2, .int a3, .int a4, .int (a5 + 1)]) rfl rfl rfl kc_i1 (zst1_of rfl (Or.inr rfl) rfl) ?_
        refine g_s (pc' := 85) rfl ?_
        exact H
    · replace H := H.2 hc
      refine g_inc (pc' := 138) (ls' := [.ref 1031, .int a1, .int a2, .int a3, .int a4, .int (a5 + 1)]) rfl rfl rfl kc_i1 (zst1_of rfl (Or.inr rfl) rfl) ?_
      refine g_s (pc' := 85) rfl ?_
      exact H
  · replace H := H.2 hc
    refine g_s (pc' := 142) rfl ?_
    refine g_getf (pc' := 145) (v := .ref 1069) rfl rfl rfl rfl rfl ?_
    refine g_s (pc' := 146) rfl ?_
    refine g_getf (pc' := 149) (v := .int (yI w 1031 62)) rfl rfl rfl rfl rfl ?_
    refine g_s (pc' := 150) rfl ?_
    obtain ⟨hi5, H⟩ := H
    refine g_iast (pc' := 151) rfl rfl rfl rfl rfl rfl hi5 ?_
    refine g_s (pc' := 152) rfl ?_
    refine g_getf (pc' := 155) (v := .ref 1070) rfl rfl rfl rfl rfl ?_
    refine g_s (pc' := 156) rfl ?_
    refine g_getf (pc' := 159) (v := .int (yI w 1031 62)) rfl rfl rfl rfl rfl ?_
    refine g_s (pc' := 160) rfl ?_
    obtain ⟨hi6, H⟩ := H
    refine g_iast (pc' := 161) rfl rfl rfl rfl rfl rfl hi6 ?_
    refine g_s (pc' := 162) rfl ?_
    refine g_getf (pc' := 165) (v := .ref 1071) rfl rfl rfl rfl rfl ?_
    refine g_s (pc' := 166) rfl ?_
    refine g_getf (pc' := 169) (v := .int (yI w 1031 62)) rfl rfl rfl rfl rfl ?_
    refine g_s (pc' := 170) rfl ?_
    obtain ⟨hi7, H⟩ := H
    refine g_iast (pc' := 171) rfl rfl rfl rfl rfl rfl hi7 ?_
    refine g_s (pc' := 172) rfl ?_
    refine g_getf (pc' := 175) (v := .ref 1072) rfl rfl rfl rfl rfl ?_
    refine g_s (pc' := 176) rfl ?_
    refine g_getf (pc' := 179) (v := .int (yI w 1031 62)) rfl rfl rfl rfl rfl ?_
    refine g_s (pc' := 180) rfl ?_
    refine g_calli (a := m_X9_value) (as := [.ref 1031]) (rest := [.int (yI w 1031 62), .ref 1072]) (ls0 := [.ref 1031]) (pc' := 183) (t_virt rfl rfl rfl rfl rfl rfl) rfl rfl rfl ?_
    refine zGo.mono H (zKi_mono ?_)
    intro v9 w8 H
    obtain ⟨hi10, H⟩ := H
    refine g_iast (pc' := 184) rfl rfl rfl rfl rfl rfl hi10 ?_
    refine g_s (pc' := 185) rfl ?_
    refine g_s (pc' := 186) rfl ?_
    refine g_getf (pc' := 189) (v := .int (yI w8 1031 52)) rfl rfl rfl rfl rfl ?_
    refine g_psh (pc' := 190) (v' := .int 1) rfl (congrArg Value.int kc_i1) ?_
    refine g_s (pc' := 191) (st' := [.int ((yI w8 1031 52) + (1 : Int32)), .ref 1031]) rfl ?_
    refine g_putI (pc' := 194) rfl rfl rfl rfl rfl rfl (fun _ => rfl) ?_
    refine g_s (pc' := 195) rfl ?_
    refine g_getf (pc' := 198) (v := .ref 1072) rfl rfl rfl rfl rfl ?_
    refine g_s (pc' := 199) rfl ?_
    refine g_s (pc' := 200) rfl ?_
    refine g_getf (pc' := 203) (v := .int (yI w8 1031 62)) rfl rfl rfl rfl rfl ?_
    refine g_s (pc' := 204) rfl ?_
    refine g_psh (pc' := 205) (v' := .int 1) rfl (congrArg Value.int kc_i1) ?_
    refine g_s (pc' := 206) (st' := [.int ((yI w8 1031 62) + (1 : Int32)), .ref 1031, .int (yI w8 1031 62), .ref 1072]) rfl ?_
    refine g_putI (pc' := 209) rfl rfl rfl rfl rfl rfl (fun _ => rfl) ?_
    obtain ⟨hi11, H⟩ := H
    refine g_iald (pc' := 210) rfl rfl rfl rfl rfl (Or.inl rfl) hi11 ?_
    exact g_reti rfl rfl H
set_option maxHeartbeats 4000000 in
theorem B_X9_findHeights_0 {d : Nat} {w : zm} {F : Int32 → zm → Prop} 
    (H : zGo (d + 1) m_X9_findHeights 2 [.ref 1031, .int (0 : Int32), zJ, zJ, zJ, zJ, zJ] [] (yz w) (zKi F)) :
    zGo (d + 1) m_X9_findHeights 0 [.ref 1031, zJ, zJ, zJ, zJ, zJ, zJ] [] (yz w) (zKi F) := by
  refine g_psh (pc' := 1) (v' := .int 0) rfl (congrArg Value.int kc_i0) ?_
  refine g_ist (k := 1) (pc' := 2) (ls' := [.ref 1031, .int (0 : Int32), zJ, zJ, zJ, zJ, zJ]) rfl rfl rfl rfl (zst1_of rfl (Or.inr rfl) rfl) ?_
  exact H
set_option maxHeartbeats 4000000 in
theorem B_X9_findHeights_2 {d : Nat} {w : zm} {F : Int32 → zm → Prop} (a1 : Int32)
    (H : ((a1 < (yI w 1031 3) → (zin a1 200) ∧ (zin a1 200) ∧ zGo (d + 1) m_X9_findHeights 2 [.ref 1031, .int (a1 + 1), zJ, zJ, zJ, zJ, zJ] [] (yz (yuA (yuA w 1061 (Int32.toNatClampNeg a1) (-1 : Int32)) 1062 (Int32.toNatClampNeg a1) (0 : Int32))) (zKi F)) ∧ (¬ a1 < (yI w 1031 3) → zGo (d + 1) m_X9_findHeights 37 [.ref 1031, .int a1, zJ, zJ, zJ, zJ, zJ] [] (yz (yuA w 1061 (Int32.toNatClampNeg (0 : Int32)) (0 : Int32))) (zKi F)))) :
    zGo (d + 1) m_X9_findHeights 2 [.ref 1031, .int a1, zJ, zJ, zJ, zJ, zJ] [] (yz w) (zKi F) := by
  refine g_s (pc' := 3) rfl ?_
  refine g_s (pc' := 4) rfl ?_
  refine g_getf (pc' := 7) (v := .int (yI w 1031 3)) rfl rfl rfl rfl rfl ?_
  refine g_icge (pc' := 10) rfl rfl (fun hc => ?_) (fun hc => ?_)
  · replace H := H.1 hc
    refine g_s (pc' := 11) rfl ?_
    refine g_getf (pc' := 14) (v := .ref 1061) rfl rfl rfl rfl rfl ?_
    refine g_s (pc' := 15) rfl ?_
    refine g_psh (pc' := 16) (v' := .int (-1)) rfl (congrArg Value.int kc_im1) ?_
    obtain ⟨hi1, H⟩ := H
    refine g_iast (pc' := 17) rfl rfl rfl rfl rfl rfl hi1 ?_
    refine g_s (pc' := 18) rfl ?_
    refine g_getf (pc' := 21) (v := .ref 1062) rfl rfl rfl rfl rfl ?_
    refine g_s (pc' := 22) rfl ?_
    refine g_psh (pc' := 23) (v' := .int 0) rfl (congrArg Value.int kc_i0) ?_
    obtain ⟨hi2, H⟩ := H
    refine g_iast (pc' := 24) rfl rfl rfl rfl rfl rfl hi2 ?_
    refine g_inc (pc' := 27) (ls' := [.ref 1031, .int (a1 + 1), zJ, zJ, zJ, zJ, zJ]) rfl rfl rfl kc_i1 (zst1_of rfl (Or.inr rfl) rfl) ?_
    refine g_s (pc' := 2) rfl ?_
    exact H
  · replace H := H.2 hc
    refine g_s (pc' := 31) rfl ?_
    refine g_getf (pc' := 34) (v := .ref 1061) rfl rfl rfl rfl rfl ?_
    refine g_psh (pc' := 35) (v' := .int 0) rfl (congrArg Value.int kc_i0) ?_
    refine g_psh (pc' := 36) (v' := .int 0) rfl (congrArg Value.int kc_i0) ?_
    refine g_iast (pc' := 37) rfl rfl rfl rfl rfl rfl ⟨by decide, by decide⟩ ?_
    exact H
set_option maxHeartbeats 4000000 in
theorem B_X9_findHeights_37 {d : Nat} {w : zm} {F : Int32 → zm → Prop} (a1 : Int32) (ua2 : Value) (ua3 : Value) (ua4 : Value) (ua5 : Value) (ua6 : Value) (hua2 : zisL ua2 = false) (hua3 : zisL ua3 = false) (hua4 : zisL ua4 = false) (hua5 : zisL ua5 = false) (hua6 : zisL ua6 = false)
    (H : zGo (d + 1) m_X9_findHeights 39 [.ref 1031, .int (0 : Int32), ua2, ua3, ua4, ua5, ua6] [] (yz w) (zKi F)) :
    zGo (d + 1) m_X9_findHeights 37 [.ref 1031, .int a1, ua2, ua3, ua4, ua5, ua6] [] (yz w) (zKi F) := by
  refine g_psh (pc' := 38) (v' := .int 0) rfl (congrArg Value.int kc_i0) ?_
  refine g_ist (k := 1) (pc' := 39) (ls' := [.ref 1031, .int (0 : Int32), ua2, ua3, ua4, ua5, ua6]) rfl rfl rfl rfl (zst1_of rfl (Or.inr rfl) rfl) ?_
  exact H
set_option maxHeartbeats 4000000 in
theorem B_X9_findHeights_39 {d : Nat} {w : zm} {F : Int32 → zm → Prop} (a1 : Int32) (ua2 : Value) (ua3 : Value) (ua4 : Value) (ua5 : Value) (ua6 : Value) (hua2 : zisL ua2 = false) (hua3 : zisL ua3 = false) (hua4 : zisL ua4 = false) (hua5 : zisL ua5 = false) (hua6 : zisL ua6 = false)
    (H : ((a1 < (yI w 1031 3) → (zin a1 200) ∧ (((yA w 1061 (Int32.toNatClampNeg a1)) < 0 → zGo (d + 1) m_X9_findHeights 39 [.ref 1031, .int (a1 + 1), ua2, ua3, ua4, ua5, ua6] [] (yz w) (zKi F)) ∧ (¬ (yA w 1061 (Int32.toNatClampNeg a1)) < 0 → (zin a1 200) ∧ (((yA w 1062 (Int32.toNatClampNeg a1)) = (1 : Int32) → zGo (d + 1) m_X9_findHeights 39 [.ref 1031, .int (a1 + 1), ua2, ua3, ua4, ua5, ua6] [] (yz w) (zKi F)) ∧ (¬ (yA w 1062 (Int32.toNatClampNeg a1)) = (1 : Int32) → zGo (d + 1) m_X9_findHeights 72 [.ref 1031, .int a1, ua2, ua3, ua4, ua5, ua6] [] (yz w) (zKi F)))))) ∧ (¬ a1 < (yI w 1031 3) → zGo (d + 1) m_X9_findHeights 72 [.ref 1031, .int a1, ua2, ua3, ua4, ua5, ua6] [] (yz w) (zKi F)))) :
    zGo (d + 1) m_X9_findHeights 39 [.ref 1031, .int a1, ua2, ua3, ua4, ua5, ua6] [] (yz w) (zKi F) := by
  refine g_s (pc' := 40) rfl ?_
  refine g_s (pc' := 41) rfl ?_
  refine g_getf (pc' := 44) (v := .int (yI w 1031 3)) rfl rfl rfl rfl rfl ?_
  refine g_icge (pc' := 47) rfl rfl (fun hc => ?_) (fun hc => ?_)
  · replace H := H.1 hc
    refine g_s (pc' := 48) rfl ?_
    refine g_getf (pc' := 51) (v := .ref 1061) rfl rfl rfl rfl rfl ?_
    refine g_s (pc' := 52) rfl ?_
    obtain ⟨hi1, H⟩ := H
    refine g_iald (pc' := 53) rfl rfl rfl rfl rfl (Or.inl rfl) hi1 ?_
    refine g_iflt (pc' := 56) rfl rfl (fun hc => ?_) (fun hc => ?_)
    · replace H := H.1 hc
      refine g_inc (pc' := 69) (ls' := [.ref 1031, .int (a1 + 1), ua2, ua3, ua4, ua5, ua6]) rfl rfl rfl kc_i1 (zst1_of rfl (Or.inr rfl) rfl) ?_
      refine g_s (pc' := 39) rfl ?_
      exact H
    · replace H := H.2 hc
      refine g_s (pc' := 57) rfl ?_
      refine g_getf (pc' := 60) (v := .ref 1062) rfl rfl rfl rfl rfl ?_
      refine g_s (pc' := 61) rfl ?_
      obtain ⟨hi2, H⟩ := H
      refine g_iald (pc' := 62) rfl rfl rfl rfl rfl (Or.inl rfl) hi2 ?_
      refine g_psh (pc' := 63) (v' := .int 1) rfl (congrArg Value.int kc_i1) ?_
      refine g_icne (pc' := 66) rfl rfl (fun hc => ?_) (fun hc => ?_)
      · replace H := H.1 hc
        refine g_inc (pc' := 69) (ls' := [.ref 1031, .int (a1 + 1), ua2, ua3, ua4, ua5, ua6]) rfl rfl rfl kc_i1 (zst1_of rfl (Or.inr rfl) rfl) ?_
        refine g_s (pc' := 39) rfl ?_
        exact H
      · replace H := H.2 hc
        exact H
  · replace H := H.2 hc
    exact H
set_option maxHeartbeats 4000000 in
theorem B_X9_findHeights_72 {d : Nat} {w : zm} {F : Int32 → zm → Prop} (a1 : Int32) (ua2 : Value) (ua3 : Value) (ua4 : Value) (ua5 : Value) (ua6 : Value) (hua2 : zisL ua2 = false) (hua3 : zisL ua3 = false) (hua4 : zisL ua4 = false) (hua5 : zisL ua5 = false) (hua6 : zisL ua6 = false)
    (H : ((a1 = (yI w 1031 3) → F (0 : Int32) w) ∧ (¬ a1 = (yI w 1031 3) → (zin a1 200) ∧ zGo d m_X9_op 0 [.ref 1031, .int a1] [] (yz (yuA w 1062 (Int32.toNatClampNeg a1) (1 : Int32))) (zKi fun v3 w2 => zGo d m_X9_takes 0 [.int v3] [] (yz w2) (zKi fun v5 w4 => (zin a1 200) ∧ (((yA w4 1061 (Int32.toNatClampNeg a1)) < v5 → zGo d m_X9_at 0 [.ref 1031, .int (3 : Int32), .int a1] [] (yz w4) (zKi fun v8 w7 => F v8 w7)) ∧ (¬ (yA w4 1061 (Int32.toNatClampNeg a1)) < v5 → (zin a1 200) ∧ zGo d m_X9_takes 0 [.int v3] [] (yz w4) (zKi fun v11 w10 => zGo d m_X9_puts 0 [.int v3] [] (yz w10) (zKi fun v13 w12 => (((16 : Int32) < (((yA w4 1061 (Int32.toNatClampNeg a1)) - v11) + v13) → zGo d m_X9_at 0 [.ref 1031, .int (4 : Int32), .int a1] [] (yz w12) (zKi fun v15 w14 => F v15 w14)) ∧ (¬ (16 : Int32) < (((yA w4 1061 (Int32.toNatClampNeg a1)) - v11) + v13) → zGo (d + 1) m_X9_findHeights 148 [.ref 1031, .int a1, .int v3, .int (((yA w4 1061 (Int32.toNatClampNeg a1)) - v11) + v13), .int (0 : Int32), ua5, ua6] [] (yz w12) (zKi F)))))))))))) :
    zGo (d + 1) m_X9_findHeights 72 [.ref 1031, .int a1, ua2, ua3, ua4, ua5, ua6] [] (yz w) (zKi F) := by
  refine g_s (pc' := 73) rfl ?_
  refine g_s (pc' := 74) rfl ?_
  refine g_getf (pc' := 77) (v := .int (yI w 1031 3)) rfl rfl rfl rfl rfl ?_
  refine g_icne (pc' := 80) rfl rfl (fun hc => ?_) (fun hc => ?_)
  · replace H := H.1 hc
    refine g_psh (pc' := 81) (v' := .int 0) rfl (congrArg Value.int kc_i0) ?_
    exact g_reti rfl rfl H
  · replace H := H.2 hc
    refine g_s (pc' := 83) rfl ?_
    refine g_getf (pc' := 86) (v := .ref 1062) rfl rfl rfl rfl rfl ?_
    refine g_s (pc' := 87) rfl ?_
    refine g_psh (pc' := 88) (v' := .int 1) rfl (congrArg Value.int kc_i1) ?_
    obtain ⟨hi1, H⟩ := H
    refine g_iast (pc' := 89) rfl rfl rfl rfl rfl rfl hi1 ?_
    refine g_s (pc' := 90) rfl ?_
    refine g_s (pc' := 91) rfl ?_
    refine g_calli (a := m_X9_op) (as := [.ref 1031, .int a1]) (rest := []) (ls0 := [.ref 1031, .int a1]) (pc' := 94) (t_virt rfl rfl rfl rfl rfl rfl) rfl rfl rfl ?_
    refine zGo.mono H (zKi_mono ?_)
    intro v3 w2 H
    refine g_ist (k := 2) (pc' := 95) (ls' := [.ref 1031, .int a1, .int v3, ua3, ua4, ua5, ua6]) rfl rfl rfl rfl (zst1_of rfl (Or.inr rfl) rfl) ?_
    refine g_s (pc' := 96) rfl ?_
    refine g_calli (a := m_X9_takes) (as := [.int v3]) (rest := []) (ls0 := [.int v3]) (pc' := 99) (t_stat rfl (Or.inl rfl) rfl rfl rfl rfl) rfl rfl rfl ?_
    refine zGo.mono H (zKi_mono ?_)
    intro v5 w4 H
    refine g_s (pc' := 100) rfl ?_
    refine g_getf (pc' := 103) (v := .ref 1061) rfl rfl rfl rfl rfl ?_
    refine g_s (pc' := 104) rfl ?_
    obtain ⟨hi6, H⟩ := H
    refine g_iald (pc' := 105) rfl rfl rfl rfl rfl (Or.inl rfl) hi6 ?_
    refine g_icle (pc' := 108) rfl rfl (fun hc => ?_) (fun hc => ?_)
    · replace H := H.1 hc
      refine g_s (pc' := 109) rfl ?_
      refine g_psh (pc' := 110) (v' := .int 3) rfl (congrArg Value.int kc_i3) ?_
      refine g_s (pc' := 111) rfl ?_
      refine g_calli (a := m_X9_at) (as := [.ref 1031, .int (3 : Int32), .int a1]) (rest := []) (ls0 := [.ref 1031, .int (3 : Int32), .int a1]) (pc' := 114) (t_virt rfl rfl rfl rfl rfl rfl) rfl rfl rfl ?_
      refine zGo.mono H (zKi_mono ?_)
      intro v8 w7 H
      exact g_reti rfl rfl H
    · replace H := H.2 hc
      refine g_s (pc' := 116) rfl ?_
      refine g_getf (pc' := 119) (v := .ref 1061) rfl rfl rfl rfl rfl ?_
      refine g_s (pc' := 120) rfl ?_
      obtain ⟨hi9, H⟩ := H
      refine g_iald (pc' := 121) rfl rfl rfl rfl rfl (Or.inl rfl) hi9 ?_
      refine g_s (pc' := 122) rfl ?_
      refine g_calli (a := m_X9_takes) (as := [.int v3]) (rest := [.int (yA w4 1061 (Int32.toNatClampNeg a1))]) (ls0 := [.int v3]) (pc' := 125) (t_stat rfl (Or.inl rfl) rfl rfl rfl rfl) rfl rfl rfl ?_
      refine zGo.mono H (zKi_mono ?_)
      intro v11 w10 H
      refine g_s (pc' := 126) (st' := [.int ((yA w4 1061 (Int32.toNatClampNeg a1)) - v11)]) rfl ?_
      refine g_s (pc' := 127) rfl ?_
      refine g_calli (a := m_X9_puts) (as := [.int v3]) (rest := [.int ((yA w4 1061 (Int32.toNatClampNeg a1)) - v11)]) (ls0 := [.int v3]) (pc' := 130) (t_stat rfl (Or.inl rfl) rfl rfl rfl rfl) rfl rfl rfl ?_
      refine zGo.mono H (zKi_mono ?_)
      intro v13 w12 H
      refine g_s (pc' := 131) (st' := [.int (((yA w4 1061 (Int32.toNatClampNeg a1)) - v11) + v13)]) rfl ?_
      refine g_ist (k := 3) (pc' := 132) (ls' := [.ref 1031, .int a1, .int v3, .int (((yA w4 1061 (Int32.toNatClampNeg a1)) - v11) + v13), ua4, ua5, ua6]) rfl rfl rfl rfl (zst1_of rfl (Or.inr rfl) rfl) ?_
      refine g_s (pc' := 133) rfl ?_
      refine g_psh (pc' := 135) (v' := .int 16) rfl (congrArg Value.int kc_b16) ?_
      refine g_icle (pc' := 138) rfl rfl (fun hc => ?_) (fun hc => ?_)
      · replace H := H.1 hc
        refine g_s (pc' := 139) rfl ?_
        refine g_psh (pc' := 140) (v' := .int 4) rfl (congrArg Value.int kc_i4) ?_
        refine g_s (pc' := 141) rfl ?_
        refine g_calli (a := m_X9_at) (as := [.ref 1031, .int (4 : Int32), .int a1]) (rest := []) (ls0 := [.ref 1031, .int (4 : Int32), .int a1]) (pc' := 144) (t_virt rfl rfl rfl rfl rfl rfl) rfl rfl rfl ?_
        refine zGo.mono H (zKi_mono ?_)
        intro v15 w14 H
        exact g_reti rfl rfl H
      · replace H := H.2 hc
        refine g_psh (pc' := 146) (v' := .int 0) rfl (congrArg Value.int kc_i0) ?_
        refine g_ist (k := 4) (pc' := 148) (ls' := [.ref 1031, .int a1, .int v3, .int (((yA w4 1061 (Int32.toNatClampNeg a1)) - v11) + v13), .int (0 : Int32), ua5, ua6]) rfl rfl rfl rfl (zst1_of rfl (Or.inr rfl) rfl) ?_
        exact H
set_option maxHeartbeats 4000000 in
theorem B_X9_findHeights_148 {d : Nat} {w : zm} {F : Int32 → zm → Prop} (a1 : Int32) (a2 : Int32) (a3 : Int32) (a4 : Int32) (ua5 : Value) (ua6 : Value) (hua5 : zisL ua5 = false) (hua6 : zisL ua6 = false)
    (H : ((a4 < (2 : Int32) → ((a4 = 0 → ((a2 = (21 : Int32) → zGo (d + 1) m_X9_findHeights 181 [.ref 1031, .int a1, .int a2, .int a3, .int a4, ua5, ua6] [.int (0 : Int32)] (yz w) (zKi F)) ∧ (¬ a2 = (21 : Int32) → ((a2 = 0 → zGo (d + 1) m_X9_findHeights 181 [.ref 1031, .int a1, .int a2, .int a3, .int a4, ua5, ua6] [.int (0 : Int32)] (yz w) (zKi F)) ∧ (¬ a2 = 0 → zGo (d + 1) m_X9_findHeights 181 [.ref 1031, .int a1, .int a2, .int a3, .int a4, ua5, ua6] [.int (1 : Int32)] (yz w) (zKi F)))))) ∧ (¬ a4 = 0 → zGo d m_X9_jumps 0 [.int a2] [] (yz w) (zKi fun v2 w1 => zGo (d + 1) m_X9_findHeights 181 [.ref 1031, .int a1, .int a2, .int a3, .int a4, ua5, ua6] [.int v2] (yz w1) (zKi F))))) ∧ (¬ a4 < (2 : Int32) → zGo (d + 1) m_X9_findHeights 37 [.ref 1031, .int a1, .int a2, .int a3, .int a4, ua5, ua6] [] (yz w) (zKi F)))) :
    zGo (d + 1) m_X9_findHeights 148 [.ref 1031, .int a1, .int a2, .int a3, .int a4, ua5, ua6] [] (yz w) (zKi F) := by
  refine g_s (pc' := 150) rfl ?_
  refine g_psh (pc' := 151) (v' := .int 2) rfl (congrArg Value.int kc_i2) ?_
  refine g_icge (pc' := 154) rfl rfl (fun hc => ?_) (fun hc => ?_)
  · replace H := H.1 hc
    refine g_s (pc' := 156) rfl ?_
    refine g_ifne (pc' := 159) rfl rfl (fun hc => ?_) (fun hc => ?_)
    · replace H := H.1 hc
      refine g_s (pc' := 160) rfl ?_
      refine g_psh (pc' := 162) (v' := .int 21) rfl (congrArg Value.int kc_b21) ?_
      refine g_iceq (pc' := 165) rfl rfl (fun hc => ?_) (fun hc => ?_)
      · replace H := H.1 hc
        refine g_psh (pc' := 174) (v' := .int 0) rfl (congrArg Value.int kc_i0) ?_
        refine g_s (pc' := 181) rfl ?_
        exact H
      · replace H := H.2 hc
        refine g_s (pc' := 166) rfl ?_
        refine g_ifeq (pc' := 169) rfl rfl (fun hc => ?_) (fun hc => ?_)
        · replace H := H.1 hc
          refine g_psh (pc' := 174) (v' := .int 0) rfl (congrArg Value.int kc_i0) ?_
          refine g_s (pc' := 181) rfl ?_
          exact H
        · replace H := H.2 hc
          refine g_psh (pc' := 170) (v' := .int 1) rfl (congrArg Value.int kc_i1) ?_
          refine g_s (pc' := 181) rfl ?_
          exact H
    · replace H := H.2 hc
      refine g_s (pc' := 178) rfl ?_
      refine g_calli (a := m_X9_jumps) (as := [.int a2]) (rest := []) (ls0 := [.int a2]) (pc' := 181) (t_stat rfl (Or.inl rfl) rfl rfl rfl rfl) rfl rfl rfl ?_
      refine zGo.mono H (zKi_mono ?_)
      intro v2 w1 H
      exact H
  · replace H := H.2 hc
    refine g_s (pc' := 37) rfl ?_
    exact H
set_option maxHeartbeats 4000000 in
theorem B_X9_findHeights_181 {d : Nat} {w : zm} {F : Int32 → zm → Prop} (a1 : Int32) (a2 : Int32) (a3 : Int32) (a4 : Int32) (ua5 : Value) (ua6 : Value) (s0 : Int32) (hua5 : zisL ua5 = false) (hua6 : zisL ua6 = false)
    (H : ((s0 = 0 → zGo (d + 1) m_X9_findHeights 148 [.ref 1031, .int a1, .int a2, .int a3, .int (a4 + 1), .int s0, ua6] [] (yz w) (zKi F)) ∧ (¬ s0 = 0 → ((a4 = 0 → zGo (d + 1) m_X9_findHeights 207 [.ref 1031, .int a1, .int a2, .int a3, .int a4, .int s0, ua6] [.int (a1 + (1 : Int32))] (yz w) (zKi F)) ∧ (¬ a4 = 0 → zGo d m_X9_argument 0 [.ref 1031, .int a1] [] (yz w) (zKi fun v2 w1 => zGo (d + 1) m_X9_findHeights 207 [.ref 1031, .int a1, .int a2, .int a3, .int a4, .int s0, ua6] [.int v2] (yz w1) (zKi F))))))) :
    zGo (d + 1) m_X9_findHeights 181 [.ref 1031, .int a1, .int a2, .int a3, .int a4, ua5, ua6] [.int s0] (yz w) (zKi F) := by
  refine g_ist (k := 5) (pc' := 183) (ls' := [.ref 1031, .int a1, .int a2, .int a3, .int a4, .int s0, ua6]) rfl rfl rfl rfl (zst1_of rfl (Or.inr rfl) rfl) ?_
  refine g_s (pc' := 185) rfl ?_
  refine g_ifne (pc' := 188) rfl rfl (fun hc => ?_) (fun hc => ?_)
  · replace H := H.1 hc
    refine g_s (pc' := 262) rfl ?_
    refine g_inc (pc' := 265) (ls' := [.ref 1031, .int a1, .int a2, .int a3, .int (a4 + 1), .int s0, ua6]) rfl rfl rfl kc_i1 (zst1_of rfl (Or.inr rfl) rfl) ?_
    refine g_s (pc' := 148) rfl ?_
    exact H
  · replace H := H.2 hc
    refine g_s (pc' := 193) rfl ?_
    refine g_ifne (pc' := 196) rfl rfl (fun hc => ?_) (fun hc => ?_)
    · replace H := H.1 hc
      refine g_s (pc' := 197) rfl ?_
      refine g_psh (pc' := 198) (v' := .int 1) rfl (congrArg Value.int kc_i1) ?_
      refine g_s (pc' := 199) (st' := [.int (a1 + (1 : Int32))]) rfl ?_
      refine g_s (pc' := 207) rfl ?_
      exact H
    · replace H := H.2 hc
      refine g_s (pc' := 203) rfl ?_
      refine g_s (pc' := 204) rfl ?_
      refine g_calli (a := m_X9_argument) (as := [.ref 1031, .int a1]) (rest := []) (ls0 := [.ref 1031, .int a1]) (pc' := 207) (t_virt rfl rfl rfl rfl rfl rfl) rfl rfl rfl ?_
      refine zGo.mono H (zKi_mono ?_)
      intro v2 w1 H
      exact H
set_option maxHeartbeats 4000000 in
theorem B_X9_findHeights_207 {d : Nat} {w : zm} {F : Int32 → zm → Prop} (a1 : Int32) (a2 : Int32) (a3 : Int32) (a4 : Int32) (a5 : Int32) (ua6 : Value) (s0 : Int32) (hua6 : zisL ua6 = false)
    (H : ((s0 = (yI w 1031 3) → zGo d m_X9_at 0 [.ref 1031, .int (6 : Int32), .int a1] [] (yz w) (zKi fun v2 w1 => F v2 w1)) ∧ (¬ s0 = (yI w 1031 3) → (zin s0 200) ∧ (((yA w 1061 (Int32.toNatClampNeg s0)) < 0 → (zin s0 200) ∧ zGo (d + 1) m_X9_findHeights 148 [.ref 1031, .int a1, .int a2, .int a3, .int (a4 + 1), .int a5, .int s0] [] (yz (yuA w 1061 (Int32.toNatClampNeg s0) a3)) (zKi F)) ∧ (¬ (yA w 1061 (Int32.toNatClampNeg s0)) < 0 → (zin s0 200) ∧ (((yA w 1061 (Int32.toNatClampNeg s0)) = a3 → (zin s0 200) ∧ zGo (d + 1) m_X9_findHeights 148 [.ref 1031, .int a1, .int a2, .int a3, .int (a4 + 1), .int a5, .int s0] [] (yz (yuA w 1061 (Int32.toNatClampNeg s0) a3)) (zKi F)) ∧ (¬ (yA w 1061 (Int32.toNatClampNeg s0)) = a3 → zGo d m_X9_at 0 [.ref 1031, .int (5 : Int32), .int a1] [] (yz w) (zKi fun v8 w7 => F v8 w7)))))))) :
    zGo (d + 1) m_X9_findHeights 207 [.ref 1031, .int a1, .int a2, .int a3, .int a4, .int a5, ua6] [.int s0] (yz w) (zKi F) := by
  refine g_ist (k := 6) (pc' := 209) (ls' := [.ref 1031, .int a1, .int a2, .int a3, .int a4, .int a5, .int s0]) rfl rfl rfl rfl (zst1_of rfl (Or.inr rfl) rfl) ?_
  refine g_s (pc' := 211) rfl ?_
  refine g_s (pc' := 212) rfl ?_
  refine g_getf (pc' := 215) (v := .int (yI w 1031 3)) rfl rfl rfl rfl rfl ?_
  refine g_icne (pc' := 218) rfl rfl (fun hc => ?_) (fun hc => ?_)
  · replace H := H.1 hc
    refine g_s (pc' := 219) rfl ?_
    refine g_psh (pc' := 221) (v' := .int 6) rfl (congrArg Value.int kc_b6) ?_
    refine g_s (pc' := 222) rfl ?_
    refine g_calli (a := m_X9_at) (as := [.ref 1031, .int (6 : Int32), .int a1]) (rest := []) (ls0 := [.ref 1031, .int (6 : Int32), .int a1]) (pc' := 225) (t_virt rfl rfl rfl rfl rfl rfl) rfl rfl rfl ?_
    refine zGo.mono H (zKi_mono ?_)
    intro v2 w1 H
    exact g_reti rfl rfl H
  · replace H := H.2 hc
    refine g_s (pc' := 227) rfl ?_
    refine g_getf (pc' := 230) (v := .ref 1061) rfl rfl rfl rfl rfl ?_
    refine g_s (pc' := 232) rfl ?_
    obtain ⟨hi3, H⟩ := H
    refine g_iald (pc' := 233) rfl rfl rfl rfl rfl (Or.inl rfl) hi3 ?_
    refine g_iflt (pc' := 236) rfl rfl (fun hc => ?_) (fun hc => ?_)
    · replace H := H.1 hc
      refine g_s (pc' := 255) rfl ?_
      refine g_getf (pc' := 258) (v := .ref 1061) rfl rfl rfl rfl rfl ?_
      refine g_s (pc' := 260) rfl ?_
      refine g_s (pc' := 261) rfl ?_
      obtain ⟨hi4, H⟩ := H
      refine g_iast (pc' := 262) rfl rfl rfl rfl rfl rfl hi4 ?_
      refine g_inc (pc' := 265) (ls' := [.ref 1031, .int a1, .int a2, .int a3, .int (a4 + 1), .int a5, .int s0]) rfl rfl rfl kc_i1 (zst1_of rfl (Or.inr rfl) rfl) ?_
      refine g_s (pc' := 148) rfl ?_
      exact H
    · replace H := H.2 hc
      refine g_s (pc' := 237) rfl ?_
      refine g_getf (pc' := 240) (v := .ref 1061) rfl rfl rfl rfl rfl ?_
      refine g_s (pc' := 242) rfl ?_
      obtain ⟨hi5, H⟩ := H
      refine g_iald (pc' := 243) rfl rfl rfl rfl rfl (Or.inl rfl) hi5 ?_
      refine g_s (pc' := 244) rfl ?_
      refine g_iceq (pc' := 247) rfl rfl (fun hc => ?_) (fun hc => ?_)
      · replace H := H.1 hc
        refine g_s (pc' := 255) rfl ?_
        refine g_getf (pc' := 258) (v := .ref 1061) rfl rfl rfl rfl rfl ?_
        refine g_s (pc' := 260) rfl ?_
        refine g_s (pc' := 261) rfl ?_
        obtain ⟨hi6, H⟩ := H
        refine g_iast (pc' := 262) rfl rfl rfl rfl rfl rfl hi6 ?_
        refine g_inc (pc' := 265) (ls' := [.ref 1031, .int a1, .int a2, .int a3, .int (a4 + 1), .int a5, .int s0]) rfl rfl rfl kc_i1 (zst1_of rfl (Or.inr rfl) rfl) ?_
        refine g_s (pc' := 148) rfl ?_
        exact H
      · replace H := H.2 hc
        refine g_s (pc' := 248) rfl ?_
        refine g_psh (pc' := 249) (v' := .int 5) rfl (congrArg Value.int kc_i5) ?_
        refine g_s (pc' := 250) rfl ?_
        refine g_calli (a := m_X9_at) (as := [.ref 1031, .int (5 : Int32), .int a1]) (rest := []) (ls0 := [.ref 1031, .int (5 : Int32), .int a1]) (pc' := 253) (t_virt rfl rfl rfl rfl rfl rfl) rfl rfl rfl ?_
        refine zGo.mono H (zKi_mono ?_)
        intro v8 w7 H
        exact g_reti rfl rfl H
set_option maxHeartbeats 4000000 in
theorem B_X9_findValue_0 {d : Nat} {w : zm} {F : zm → Prop} (a1 : Int32)
    (H : (zin a1 48) ∧ zGo d m_X9_op 0 [.ref 1031, .int (yA w 1059 (Int32.toNatClampNeg a1))] [] (yz w) (zKi fun v3 w2 => (zin a1 48) ∧ zGo d m_X9_argument 0 [.ref 1031, .int (yA w2 1059 (Int32.toNatClampNeg a1))] [] (yz w2) (zKi fun v6 w5 => ((v3 < (4 : Int32) → zGo (d + 1) m_X9_findValue 106 [.ref 1031, .int a1, .int v3, .int v6, zJ] [] (yz w5) (zKv F)) ∧ (¬ v3 < (4 : Int32) → (((15 : Int32) < v3 → zGo (d + 1) m_X9_findValue 106 [.ref 1031, .int a1, .int v3, .int v6, zJ] [] (yz w5) (zKv F)) ∧ (¬ (15 : Int32) < v3 → ((v3 = (7 : Int32) → (zin ((yI w5 1031 61) - (1 : Int32)) 20) ∧ zGo d m_X9_guard 0 [.ref 1031, .int (yA w5 1068 (Int32.toNatClampNeg ((yI w5 1031 61) - (1 : Int32)))), .int a1] [] (yz (yuI w5 1031 61 ((yI w5 1031 61) - (1 : Int32)))) (zKv fun w8 => zGo (d + 1) m_X9_findValue 69 [.ref 1031, .int a1, .int v3, .int v6, zJ] [] (yz w8) (zKv F))) ∧ (¬ v3 = (7 : Int32) → ((v3 = (8 : Int32) → (zin ((yI w5 1031 61) - (1 : Int32)) 20) ∧ zGo d m_X9_guard 0 [.ref 1031, .int (yA w5 1068 (Int32.toNatClampNeg ((yI w5 1031 61) - (1 : Int32)))), .int a1] [] (yz (yuI w5 1031 61 ((yI w5 1031 61) - (1 : Int32)))) (zKv fun w10 => zGo (d + 1) m_X9_findValue 69 [.ref 1031, .int a1, .int v3, .int v6, zJ] [] (yz w10) (zKv F))) ∧ (¬ v3 = (8 : Int32) → zGo (d + 1) m_X9_findValue 69 [.ref 1031, .int a1, .int v3, .int v6, zJ] [] (yz (yuI w5 1031 61 ((yI w5 1031 61) - (1 : Int32)))) (zKv F)))))))))))) :
    zGo (d + 1) m_X9_findValue 0 [.ref 1031, .int a1, zJ, zJ, zJ] [] (yz w) (zKv F) := by
  refine g_s (pc' := 1) rfl ?_
  refine g_s (pc' := 2) rfl ?_
  refine g_getf (pc' := 5) (v := .ref 1059) rfl rfl rfl rfl rfl ?_
  refine g_s (pc' := 6) rfl ?_
  obtain ⟨hi1, H⟩ := H
  refine g_iald (pc' := 7) rfl rfl rfl rfl rfl (Or.inl rfl) hi1 ?_
  refine g_calli (a := m_X9_op) (as := [.ref 1031, .int (yA w 1059 (Int32.toNatClampNeg a1))]) (rest := []) (ls0 := [.ref 1031, .int (yA w 1059 (Int32.toNatClampNeg a1))]) (pc' := 10) (t_virt rfl rfl rfl rfl rfl rfl) rfl rfl rfl ?_
  refine zGo.mono H (zKi_mono ?_)
  intro v3 w2 H
  refine g_ist (k := 2) (pc' := 11) (ls' := [.ref 1031, .int a1, .int v3, zJ, zJ]) rfl rfl rfl rfl (zst1_of rfl (Or.inr rfl) rfl) ?_
  refine g_s (pc' := 12) rfl ?_
  refine g_s (pc' := 13) rfl ?_
  refine g_getf (pc' := 16) (v := .ref 1059) rfl rfl rfl rfl rfl ?_
  refine g_s (pc' := 17) rfl ?_
  obtain ⟨hi4, H⟩ := H
  refine g_iald (pc' := 18) rfl rfl rfl rfl rfl (Or.inl rfl) hi4 ?_
  refine g_calli (a := m_X9_argument) (as := [.ref 1031, .int (yA w2 1059 (Int32.toNatClampNeg a1))]) (rest := []) (ls0 := [.ref 1031, .int (yA w2 1059 (Int32.toNatClampNeg a1))]) (pc' := 21) (t_virt rfl rfl rfl rfl rfl rfl) rfl rfl rfl ?_
  refine zGo.mono H (zKi_mono ?_)
  intro v6 w5 H
  refine g_ist (k := 3) (pc' := 22) (ls' := [.ref 1031, .int a1, .int v3, .int v6, zJ]) rfl rfl rfl rfl (zst1_of rfl (Or.inr rfl) rfl) ?_
  refine g_s (pc' := 23) rfl ?_
  refine g_psh (pc' := 24) (v' := .int 4) rfl (congrArg Value.int kc_i4) ?_
  refine g_iclt (pc' := 27) rfl rfl (fun hc => ?_) (fun hc => ?_)
  · replace H := H.1 hc
    exact H
  · replace H := H.2 hc
    refine g_s (pc' := 28) rfl ?_
    refine g_psh (pc' := 30) (v' := .int 15) rfl (congrArg Value.int kc_b15) ?_
    refine g_icgt (pc' := 33) rfl rfl (fun hc => ?_) (fun hc => ?_)
    · replace H := H.1 hc
      exact H
    · replace H := H.2 hc
      refine g_s (pc' := 34) rfl ?_
      refine g_s (pc' := 35) rfl ?_
      refine g_getf (pc' := 38) (v := .int (yI w5 1031 61)) rfl rfl rfl rfl rfl ?_
      refine g_psh (pc' := 39) (v' := .int 1) rfl (congrArg Value.int kc_i1) ?_
      refine g_s (pc' := 40) (st' := [.int ((yI w5 1031 61) - (1 : Int32)), .ref 1031]) rfl ?_
      refine g_putI (pc' := 43) rfl rfl rfl rfl rfl rfl (fun _ => rfl) ?_
      refine g_s (pc' := 44) rfl ?_
      refine g_psh (pc' := 46) (v' := .int 7) rfl (congrArg Value.int kc_b7) ?_
      refine g_iceq (pc' := 49) rfl rfl (fun hc => ?_) (fun hc => ?_)
      · replace H := H.1 hc
        refine g_s (pc' := 56) rfl ?_
        refine g_s (pc' := 57) rfl ?_
        refine g_getf (pc' := 60) (v := .ref 1068) rfl rfl rfl rfl rfl ?_
        refine g_s (pc' := 61) rfl ?_
        refine g_getf (pc' := 64) (v := .int ((yI w5 1031 61) - (1 : Int32))) rfl rfl rfl rfl rfl ?_
        obtain ⟨hi7, H⟩ := H
        refine g_iald (pc' := 65) rfl rfl rfl rfl rfl (Or.inl rfl) hi7 ?_
        refine g_s (pc' := 66) rfl ?_
        refine g_callv (a := m_X9_guard) (as := [.ref 1031, .int (yA w5 1068 (Int32.toNatClampNeg ((yI w5 1031 61) - (1 : Int32)))), .int a1]) (rest := []) (ls0 := [.ref 1031, .int (yA w5 1068 (Int32.toNatClampNeg ((yI w5 1031 61) - (1 : Int32)))), .int a1]) (pc' := 69) (t_virt rfl rfl rfl rfl rfl rfl) rfl rfl rfl ?_
        refine zGo.mono H (zKv_mono ?_)
        intro w8 H
        exact H
      · replace H := H.2 hc
        refine g_s (pc' := 50) rfl ?_
        refine g_psh (pc' := 52) (v' := .int 8) rfl (congrArg Value.int kc_b8) ?_
        refine g_icne (pc' := 55) rfl rfl (fun hc => ?_) (fun hc => ?_)
        · replace H := H.1 hc
          refine g_s (pc' := 56) rfl ?_
          refine g_s (pc' := 57) rfl ?_
          refine g_getf (pc' := 60) (v := .ref 1068) rfl rfl rfl rfl rfl ?_
          refine g_s (pc' := 61) rfl ?_
          refine g_getf (pc' := 64) (v := .int ((yI w5 1031 61) - (1 : Int32))) rfl rfl rfl rfl rfl ?_
          obtain ⟨hi9, H⟩ := H
          refine g_iald (pc' := 65) rfl rfl rfl rfl rfl (Or.inl rfl) hi9 ?_
          refine g_s (pc' := 66) rfl ?_
          refine g_callv (a := m_X9_guard) (as := [.ref 1031, .int (yA w5 1068 (Int32.toNatClampNeg ((yI w5 1031 61) - (1 : Int32)))), .int a1]) (rest := []) (ls0 := [.ref 1031, .int (yA w5 1068 (Int32.toNatClampNeg ((yI w5 1031 61) - (1 : Int32)))), .int a1]) (pc' := 69) (t_virt rfl rfl rfl rfl rfl rfl) rfl rfl rfl ?_
          refine zGo.mono H (zKv_mono ?_)
          intro w10 H
          exact H
        · replace H := H.2 hc
          exact H
set_option maxHeartbeats 4000000 in
theorem B_X9_findValue_69 {d : Nat} {w : zm} {F : zm → Prop} (a1 : Int32) (a2 : Int32) (a3 : Int32)
    (H : (zin ((yI w 1031 61) - (1 : Int32)) 20) ∧ (zin (yI w 1031 61) 20) ∧ zGo d m_X9_find 0 [.ref 1031, .int a2, .int (yA w 1068 (Int32.toNatClampNeg ((yI w 1031 61) - (1 : Int32)))), .int (yA w 1068 (Int32.toNatClampNeg (yI w 1031 61))), zJ, zJ] [] (yz w) (zKi fun v4 w3 => (zin ((yI w 1031 61) - (1 : Int32)) 20) ∧ F (yuA w3 1068 (Int32.toNatClampNeg ((yI w 1031 61) - (1 : Int32))) v4))) :
    zGo (d + 1) m_X9_findValue 69 [.ref 1031, .int a1, .int a2, .int a3, zJ] [] (yz w) (zKv F) := by
  refine g_s (pc' := 70) rfl ?_
  refine g_getf (pc' := 73) (v := .ref 1068) rfl rfl rfl rfl rfl ?_
  refine g_s (pc' := 74) rfl ?_
  refine g_getf (pc' := 77) (v := .int (yI w 1031 61)) rfl rfl rfl rfl rfl ?_
  refine g_psh (pc' := 78) (v' := .int 1) rfl (congrArg Value.int kc_i1) ?_
  refine g_s (pc' := 79) (st' := [.int ((yI w 1031 61) - (1 : Int32)), .ref 1068]) rfl ?_
  refine g_s (pc' := 80) rfl ?_
  refine g_s (pc' := 81) rfl ?_
  refine g_s (pc' := 82) rfl ?_
  refine g_getf (pc' := 85) (v := .ref 1068) rfl rfl rfl rfl rfl ?_
  refine g_s (pc' := 86) rfl ?_
  refine g_getf (pc' := 89) (v := .int (yI w 1031 61)) rfl rfl rfl rfl rfl ?_
  refine g_psh (pc' := 90) (v' := .int 1) rfl (congrArg Value.int kc_i1) ?_
  refine g_s (pc' := 91) (st' := [.int ((yI w 1031 61) - (1 : Int32)), .ref 1068, .int a2, .ref 1031, .int ((yI w 1031 61) - (1 : Int32)), .ref 1068]) rfl ?_
  obtain ⟨hi1, H⟩ := H
  refine g_iald (pc' := 92) rfl rfl rfl rfl rfl (Or.inl rfl) hi1 ?_
  refine g_s (pc' := 93) rfl ?_
  refine g_getf (pc' := 96) (v := .ref 1068) rfl rfl rfl rfl rfl ?_
  refine g_s (pc' := 97) rfl ?_
  refine g_getf (pc' := 100) (v := .int (yI w 1031 61)) rfl rfl rfl rfl rfl ?_
  obtain ⟨hi2, H⟩ := H
  refine g_iald (pc' := 101) rfl rfl rfl rfl rfl (Or.inl rfl) hi2 ?_
  refine g_calli (a := m_X9_find) (as := [.ref 1031, .int a2, .int (yA w 1068 (Int32.toNatClampNeg ((yI w 1031 61) - (1 : Int32)))), .int (yA w 1068 (Int32.toNatClampNeg (yI w 1031 61)))]) (rest := [.int ((yI w 1031 61) - (1 : Int32)), .ref 1068]) (ls0 := [.ref 1031, .int a2, .int (yA w 1068 (Int32.toNatClampNeg ((yI w 1031 61) - (1 : Int32)))), .int (yA w 1068 (Int32.toNatClampNeg (yI w 1031 61))), zJ, zJ]) (pc' := 104) (t_virt rfl rfl rfl rfl rfl rfl) rfl rfl rfl ?_
  refine zGo.mono H (zKi_mono ?_)
  intro v4 w3 H
  obtain ⟨hi5, H⟩ := H
  refine g_iast (pc' := 105) rfl rfl rfl rfl rfl rfl hi5 ?_
  exact g_retv rfl rfl H
set_option maxHeartbeats 4000000 in
theorem B_X9_findValue_106 {d : Nat} {w : zm} {F : zm → Prop} (a1 : Int32) (a2 : Int32) (a3 : Int32)
    (H : (((a2.toInt < 1 ∨ 26 < a2.toInt ∨ a2.toInt = 4 ∨ a2.toInt = 5 ∨ a2.toInt = 6 ∨ a2.toInt = 7 ∨ a2.toInt = 8 ∨ a2.toInt = 9 ∨ a2.toInt = 10 ∨ a2.toInt = 11 ∨ a2.toInt = 12 ∨ a2.toInt = 13 ∨ a2.toInt = 14 ∨ a2.toInt = 15 ∨ a2.toInt = 21) → F w) ∧ ((a2.toInt = 1) → zGo d m_X9_constantOf 0 [.ref 1031, .int a3, zJ] [] (yz (yuI w 1031 61 ((yI w 1031 61) + (1 : Int32)))) (zKi fun v2 w1 => (zin (yI w 1031 61) 20) ∧ F (yuA w1 1068 (Int32.toNatClampNeg (yI w 1031 61)) v2))) ∧ ((a2.toInt = 2) → (zin a3 16) ∧ (zin (yI w 1031 61) 20) ∧ F (yuA (yuI w 1031 61 ((yI w 1031 61) + (1 : Int32))) 1068 (Int32.toNatClampNeg (yI w 1031 61)) (yA w 1067 (Int32.toNatClampNeg a3)))) ∧ ((a2.toInt = 3) → (zin ((yI w 1031 61) - (1 : Int32)) 20) ∧ (zin a3 16) ∧ F (yuA (yuI w 1031 61 ((yI w 1031 61) - (1 : Int32))) 1067 (Int32.toNatClampNeg a3) (yA w 1068 (Int32.toNatClampNeg ((yI w 1031 61) - (1 : Int32)))))) ∧ ((a2.toInt = 16 ∨ a2.toInt = 17) → (zin ((yI w 1031 61) - (1 : Int32)) 20) ∧ zGo d m_X9_find 0 [.ref 1031, .int a2, .int (yA w 1068 (Int32.toNatClampNeg ((yI w 1031 61) - (1 : Int32)))), .int (-1 : Int32), zJ, zJ] [] (yz w) (zKi fun v10 w9 => (zin ((yI w 1031 61) - (1 : Int32)) 20) ∧ F (yuA w9 1068 (Int32.toNatClampNeg ((yI w 1031 61) - (1 : Int32))) v10))) ∧ ((a2.toInt = 18) → (zin ((yI w 1031 61) - (1 : Int32)) 20) ∧ (zin (yI w 1031 61) 20) ∧ F (yuI (yuA w 1068 (Int32.toNatClampNeg (yI w 1031 61)) (yA w 1068 (Int32.toNatClampNeg ((yI w 1031 61) - (1 : Int32))))) 1031 61 ((yI w 1031 61) + (1 : Int32)))) ∧ ((a2.toInt = 19) → (zin ((yI w 1031 61) - (1 : Int32)) 20) ∧ (zin ((yI w 1031 61) - (2 : Int32)) 20) ∧ (zin ((yI w 1031 61) - (1 : Int32)) 20) ∧ (zin ((yI w 1031 61) - (2 : Int32)) 20) ∧ F (yuA (yuA w 1068 (Int32.toNatClampNeg ((yI w 1031 61) - (1 : Int32))) (yA w 1068 (Int32.toNatClampNeg ((yI w 1031 61) - (2 : Int32))))) 1068 (Int32.toNatClampNeg ((yI w 1031 61) - (2 : Int32))) (yA w 1068 (Int32.toNatClampNeg ((yI w 1031 61) - (1 : Int32)))))) ∧ ((a2.toInt = 22 ∨ a2.toInt = 23) → (zin ((yI w 1031 61) - (1 : Int32)) 20) ∧ zGo d m_X9_guard 0 [.ref 1031, .int (yA w 1068 (Int32.toNatClampNeg ((yI w 1031 61) - (1 : Int32)))), .int a1] [] (yz (yuI w 1031 61 ((yI w 1031 61) - (1 : Int32)))) (zKv fun w19 => F w19)) ∧ ((a2.toInt = 20 ∨ a2.toInt = 24) → F (yuI w 1031 61 ((yI w 1031 61) - (1 : Int32)))) ∧ ((a2.toInt = 25) → (zin ((yI w 1031 61) - (1 : Int32)) 20) ∧ zGo d m_X9_peek 0 [.ref 1031, .int (yA w 1068 (Int32.toNatClampNeg ((yI w 1031 61) - (1 : Int32)))), zJ] [] (yz w) (zKi fun v22 w21 => (zin ((yI w 1031 61) - (1 : Int32)) 20) ∧ F (yuA w21 1068 (Int32.toNatClampNeg ((yI w 1031 61) - (1 : Int32))) v22))) ∧ ((a2.toInt = 26) → (zin ((yI w 1031 61) - (2 : Int32)) 20) ∧ (zin (((yI w 1031 61) - (2 : Int32)) + (1 : Int32)) 20) ∧ zGo d m_X9_poked 0 [.ref 1031, .int (yA w 1068 (Int32.toNatClampNeg ((yI w 1031 61) - (2 : Int32)))), .int (yA w 1068 (Int32.toNatClampNeg (((yI w 1031 61) - (2 : Int32)) + (1 : Int32)))), zJ] [] (yz (yuI w 1031 61 ((yI w 1031 61) - (2 : Int32)))) (zKv fun w26 => F w26)))) :
    zGo (d + 1) m_X9_findValue 106 [.ref 1031, .int a1, .int a2, .int a3, zJ] [] (yz w) (zKv F) := by
  refine g_s (pc' := 107) rfl ?_
  refine g_tsw rfl (fun hx => ?_) (fun j hx hy => ?_)
  · replace H := H.1 (by omega)
    show zGo (d + 1) m_X9_findValue 516 [.ref 1031, .int a1, .int a2, .int a3, zJ] [] (yz w) (zKv F)
    exact g_retv rfl rfl H
  · have hj : j < 26 := by omega
    match j, hj, hx with
    | 0, _, hx =>
      refine ⟨117, rfl, ?_⟩
      replace H := H.2.1 (by omega)
      show zGo (d + 1) m_X9_findValue 224 [.ref 1031, .int a1, .int a2, .int a3, zJ] [] (yz w) (zKv F)
      refine g_s (pc' := 225) rfl ?_
      refine g_getf (pc' := 228) (v := .ref 1068) rfl rfl rfl rfl rfl ?_
      refine g_s (pc' := 229) rfl ?_
      refine g_s (pc' := 230) rfl ?_
      refine g_getf (pc' := 233) (v := .int (yI w 1031 61)) rfl rfl rfl rfl rfl ?_
      refine g_s (pc' := 234) rfl ?_
      refine g_psh (pc' := 235) (v' := .int 1) rfl (congrArg Value.int kc_i1) ?_
      refine g_s (pc' := 236) (st' := [.int ((yI w 1031 61) + (1 : Int32)), .ref 1031, .int (yI w 1031 61), .ref 1068]) rfl ?_
      refine g_putI (pc' := 239) rfl rfl rfl rfl rfl rfl (fun _ => rfl) ?_
      refine g_s (pc' := 240) rfl ?_
      refine g_s (pc' := 241) rfl ?_
      refine g_calli (a := m_X9_constantOf) (as := [.ref 1031, .int a3]) (rest := [.int (yI w 1031 61), .ref 1068]) (ls0 := [.ref 1031, .int a3, zJ]) (pc' := 244) (t_virt rfl rfl rfl rfl rfl rfl) rfl rfl rfl ?_
      refine zGo.mono H (zKi_mono ?_)
      intro v2 w1 H
      obtain ⟨hi3, H⟩ := H
      refine g_iast (pc' := 245) rfl rfl rfl rfl rfl rfl hi3 ?_
      refine g_s (pc' := 516) rfl ?_
      exact g_retv rfl rfl H
    | 1, _, hx =>
      refine ⟨141, rfl, ?_⟩
      replace H := H.2.2.1 (by omega)
      show zGo (d + 1) m_X9_findValue 248 [.ref 1031, .int a1, .int a2, .int a3, zJ] [] (yz w) (zKv F)
      refine g_s (pc' := 249) rfl ?_
      refine g_getf (pc' := 252) (v := .ref 1068) rfl rfl rfl rfl rfl ?_
      refine g_s (pc' := 253) rfl ?_
      refine g_s (pc' := 254) rfl ?_
      refine g_getf (pc' := 257) (v := .int (yI w 1031 61)) rfl rfl rfl rfl rfl ?_
      refine g_s (pc' := 258) rfl ?_
      refine g_psh (pc' := 259) (v' := .int 1) rfl (congrArg Value.int kc_i1) ?_
      refine g_s (pc' := 260) (st' := [.int ((yI w 1031 61) + (1 : Int32)), .ref 1031, .int (yI w 1031 61), .ref 1068]) rfl ?_
      refine g_putI (pc' := 263) rfl rfl rfl rfl rfl rfl (fun _ => rfl) ?_
      refine g_s (pc' := 264) rfl ?_
      refine g_getf (pc' := 267) (v := .ref 1067) rfl rfl rfl rfl rfl ?_
      refine g_s (pc' := 268) rfl ?_
      obtain ⟨hi4, H⟩ := H
      refine g_iald (pc' := 269) rfl rfl rfl rfl rfl (Or.inl rfl) hi4 ?_
      obtain ⟨hi5, H⟩ := H
      refine g_iast (pc' := 270) rfl rfl rfl rfl rfl rfl hi5 ?_
      refine g_s (pc' := 516) rfl ?_
      exact g_retv rfl rfl H
    | 2, _, hx =>
      refine ⟨166, rfl, ?_⟩
      replace H := H.2.2.2.1 (by omega)
      show zGo (d + 1) m_X9_findValue 273 [.ref 1031, .int a1, .int a2, .int a3, zJ] [] (yz w) (zKv F)
      refine g_s (pc' := 274) rfl ?_
      refine g_getf (pc' := 277) (v := .ref 1067) rfl rfl rfl rfl rfl ?_
      refine g_s (pc' := 278) rfl ?_
      refine g_s (pc' := 279) rfl ?_
      refine g_getf (pc' := 282) (v := .ref 1068) rfl rfl rfl rfl rfl ?_
      refine g_s (pc' := 283) rfl ?_
      refine g_s (pc' := 284) rfl ?_
      refine g_getf (pc' := 287) (v := .int (yI w 1031 61)) rfl rfl rfl rfl rfl ?_
      refine g_psh (pc' := 288) (v' := .int 1) rfl (congrArg Value.int kc_i1) ?_
      refine g_s (pc' := 289) (st' := [.int ((yI w 1031 61) - (1 : Int32)), .ref 1031, .ref 1068, .int a3, .ref 1067]) rfl ?_
      refine g_s (pc' := 290) rfl ?_
      refine g_putI (pc' := 293) rfl rfl rfl rfl rfl rfl (fun _ => rfl) ?_
      obtain ⟨hi6, H⟩ := H
      refine g_iald (pc' := 294) rfl rfl rfl rfl rfl (Or.inl rfl) hi6 ?_
      obtain ⟨hi7, H⟩ := H
      refine g_iast (pc' := 295) rfl rfl rfl rfl rfl rfl hi7 ?_
      refine g_s (pc' := 516) rfl ?_
      exact g_retv rfl rfl H
    | 3, _, hx =>
      refine ⟨409, rfl, ?_⟩
      replace H := H.1 (by omega)
      show zGo (d + 1) m_X9_findValue 516 [.ref 1031, .int a1, .int a2, .int a3, zJ] [] (yz w) (zKv F)
      exact g_retv rfl rfl H
    | 4, _, hx =>
      refine ⟨409, rfl, ?_⟩
      replace H := H.1 (by omega)
      show zGo (d + 1) m_X9_findValue 516 [.ref 1031, .int a1, .int a2, .int a3, zJ] [] (yz w) (zKv F)
      exact g_retv rfl rfl H
    | 5, _, hx =>
      refine ⟨409, rfl, ?_⟩
      replace H := H.1 (by omega)
      show zGo (d + 1) m_X9_findValue 516 [.ref 1031, .int a1, .int a2, .int a3, zJ] [] (yz w) (zKv F)
      exact g_retv rfl rfl H
    | 6, _, hx =>
      refine ⟨409, rfl, ?_⟩
      replace H := H.1 (by omega)
      show zGo (d + 1) m_X9_findValue 516 [.ref 1031, .int a1, .int a2, .int a3, zJ] [] (yz w) (zKv F)
      exact g_retv rfl rfl H
    | 7, _, hx =>
      refine ⟨409, rfl, ?_⟩
      replace H := H.1 (by omega)
      show zGo (d + 1) m_X9_findValue 516 [.ref 1031, .int a1, .int a2, .int a3, zJ] [] (yz w) (zKv F)
      exact g_retv rfl rfl H
    | 8, _, hx =>
      refine ⟨409, rfl, ?_⟩
      replace H := H.1 (by omega)
      show zGo (d + 1) m_X9_findValue 516 [.ref 1031, .int a1, .int a2, .int a3, zJ] [] (yz w) (zKv F)
      exact g_retv rfl rfl H
    | 9, _, hx =>
      refine ⟨409, rfl, ?_⟩
      replace H := H.1 (by omega)
      show zGo (d + 1) m_X9_findValue 516 [.ref 1031, .int a1, .int a2, .int a3, zJ] [] (yz w) (zKv F)
      exact g_retv rfl rfl H
    | 10, _, hx =>
      refine ⟨409, rfl, ?_⟩
      replace H := H.1 (by omega)
      show zGo (d + 1) m_X9_findValue 516 [.ref 1031, .int a1, .int a2, .int a3, zJ] [] (yz w) (zKv F)
      exact g_retv rfl rfl H
    | 11, _, hx =>
      refine ⟨409, rfl, ?_⟩
      replace H := H.1 (by omega)
      show zGo (d + 1) m_X9_findValue 516 [.ref 1031, .int a1, .int a2, .int a3, zJ] [] (yz w) (zKv F)
      exact g_retv rfl rfl H
    | 12, _, hx =>
      refine ⟨409, rfl, ?_⟩
      replace H := H.1 (by omega)
      show zGo (d + 1) m_X9_findValue 516 [.ref 1031, .int a1, .int a2, .int a3, zJ] [] (yz w) (zKv F)
      exact g_retv rfl rfl H
    | 13, _, hx =>
      refine ⟨409, rfl, ?_⟩
      replace H := H.1 (by omega)
      show zGo (d + 1) m_X9_findValue 516 [.ref 1031, .int a1, .int a2, .int a3, zJ] [] (yz w) (zKv F)
      exact g_retv rfl rfl H
    | 14, _, hx =>
      refine ⟨409, rfl, ?_⟩
      replace H := H.1 (by omega)
      show zGo (d + 1) m_X9_findValue 516 [.ref 1031, .int a1, .int a2, .int a3, zJ] [] (yz w) (zKv F)
      exact g_retv rfl rfl H
    | 15, _, hx =>
      refine ⟨191, rfl, ?_⟩
      replace H := H.2.2.2.2.1 (by omega)
      show zGo (d + 1) m_X9_findValue 298 [.ref 1031, .int a1, .int a2, .int a3, zJ] [] (yz w) (zKv F)
      refine g_s (pc' := 299) rfl ?_
      refine g_getf (pc' := 302) (v := .ref 1068) rfl rfl rfl rfl rfl ?_
      refine g_s (pc' := 303) rfl ?_
      refine g_getf (pc' := 306) (v := .int (yI w 1031 61)) rfl rfl rfl rfl rfl ?_
      refine g_psh (pc' := 307) (v' := .int 1) rfl (congrArg Value.int kc_i1) ?_
      refine g_s (pc' := 308) (st' := [.int ((yI w 1031 61) - (1 : Int32)), .ref 1068]) rfl ?_
      refine g_s (pc' := 309) rfl ?_
      refine g_s (pc' := 310) rfl ?_
      refine g_s (pc' := 311) rfl ?_
      refine g_getf (pc' := 314) (v := .ref 1068) rfl rfl rfl rfl rfl ?_
      refine g_s (pc' := 315) rfl ?_
      refine g_getf (pc' := 318) (v := .int (yI w 1031 61)) rfl rfl rfl rfl rfl ?_
      refine g_psh (pc' := 319) (v' := .int 1) rfl (congrArg Value.int kc_i1) ?_
      refine g_s (pc' := 320) (st' := [.int ((yI w 1031 61) - (1 : Int32)), .ref 1068, .int a2, .ref 1031, .int ((yI w 1031 61) - (1 : Int32)), .ref 1068]) rfl ?_
      obtain ⟨hi8, H⟩ := H
      refine g_iald (pc' := 321) rfl rfl rfl rfl rfl (Or.inl rfl) hi8 ?_
      refine g_psh (pc' := 322) (v' := .int (-1)) rfl (congrArg Value.int kc_im1) ?_
      refine g_calli (a := m_X9_find) (as := [.ref 1031, .int a2, .int (yA w 1068 (Int32.toNatClampNeg ((yI w 1031 61) - (1 : Int32)))), .int (-1 : Int32)]) (rest := [.int ((yI w 1031 61) - (1 : Int32)), .ref 1068]) (ls0 := [.ref 1031, .int a2, .int (yA w 1068 (Int32.toNatClampNeg ((yI w 1031 61) - (1 : Int32)))), .int (-1 : Int32), zJ, zJ]) (pc' := 325) (t_virt rfl rfl rfl rfl rfl rfl) rfl rfl rfl ?_
      refine zGo.mono H (zKi_mono ?_)
      intro v10 w9 H
      obtain ⟨hi11, H⟩ := H
      refine g_iast (pc' := 326) rfl rfl rfl rfl rfl rfl hi11 ?_
      refine g_s (pc' := 516) rfl ?_
      exact g_retv rfl rfl H
    | 16, _, hx =>
      refine ⟨191, rfl, ?_⟩
      replace H := H.2.2.2.2.1 (by omega)
      show zGo (d + 1) m_X9_findValue 298 [.ref 1031, .int a1, .int a2, .int a3, zJ] [] (yz w) (zKv F)
      refine g_s (pc' := 299) rfl ?_
      refine g_getf (pc' := 302) (v := .ref 1068) rfl rfl rfl rfl rfl ?_
      refine g_s (pc' := 303) rfl ?_
      refine g_getf (pc' := 306) (v := .int (yI w 1031 61)) rfl rfl rfl rfl rfl ?_
      refine g_psh (pc' := 307) (v' := .int 1) rfl (congrArg Value.int kc_i1) ?_
      refine g_s (pc' := 308) (st' := [.int ((yI w 1031 61) - (1 : Int32)), .ref 1068]) rfl ?_
      refine g_s (pc' := 309) rfl ?_
      refine g_s (pc' := 310) rfl ?_
      refine g_s (pc' := 311) rfl ?_
      refine g_getf (pc' := 314) (v := .ref 1068) rfl rfl rfl rfl rfl ?_
      refine g_s (pc' := 315) rfl ?_
      refine g_getf (pc' := 318) (v := .int (yI w 1031 61)) rfl rfl rfl rfl rfl ?_
      refine g_psh (pc' := 319) (v' := .int 1) rfl (congrArg Value.int kc_i1) ?_
      refine g_s (pc' := 320) (st' := [.int ((yI w 1031 61) - (1 : Int32)), .ref 1068, .int a2, .ref 1031, .int ((yI w 1031 61) - (1 : Int32)), .ref 1068]) rfl ?_
      obtain ⟨hi8, H⟩ := H
      refine g_iald (pc' := 321) rfl rfl rfl rfl rfl (Or.inl rfl) hi8 ?_
      refine g_psh (pc' := 322) (v' := .int (-1)) rfl (congrArg Value.int kc_im1) ?_
      refine g_calli (a := m_X9_find) (as := [.ref 1031, .int a2, .int (yA w 1068 (Int32.toNatClampNeg ((yI w 1031 61) - (1 : Int32)))), .int (-1 : Int32)]) (rest := [.int ((yI w 1031 61) - (1 : Int32)), .ref 1068]) (ls0 := [.ref 1031, .int a2, .int (yA w 1068 (Int32.toNatClampNeg ((yI w 1031 61) - (1 : Int32)))), .int (-1 : Int32), zJ, zJ]) (pc' := 325) (t_virt rfl rfl rfl rfl rfl rfl) rfl rfl rfl ?_
      refine zGo.mono H (zKi_mono ?_)
      intro v10 w9 H
      obtain ⟨hi11, H⟩ := H
      refine g_iast (pc' := 326) rfl rfl rfl rfl rfl rfl hi11 ?_
      refine g_s (pc' := 516) rfl ?_
      exact g_retv rfl rfl H
    | 17, _, hx =>
      refine ⟨222, rfl, ?_⟩
      replace H := H.2.2.2.2.2.1 (by omega)
      show zGo (d + 1) m_X9_findValue 329 [.ref 1031, .int a1, .int a2, .int a3, zJ] [] (yz w) (zKv F)
      refine g_s (pc' := 330) rfl ?_
      refine g_getf (pc' := 333) (v := .ref 1068) rfl rfl rfl rfl rfl ?_
      refine g_s (pc' := 334) rfl ?_
      refine g_getf (pc' := 337) (v := .int (yI w 1031 61)) rfl rfl rfl rfl rfl ?_
      refine g_s (pc' := 338) rfl ?_
      refine g_getf (pc' := 341) (v := .ref 1068) rfl rfl rfl rfl rfl ?_
      refine g_s (pc' := 342) rfl ?_
      refine g_getf (pc' := 345) (v := .int (yI w 1031 61)) rfl rfl rfl rfl rfl ?_
      refine g_psh (pc' := 346) (v' := .int 1) rfl (congrArg Value.int kc_i1) ?_
      refine g_s (pc' := 347) (st' := [.int ((yI w 1031 61) - (1 : Int32)), .ref 1068, .int (yI w 1031 61), .ref 1068]) rfl ?_
      obtain ⟨hi12, H⟩ := H
      refine g_iald (pc' := 348) rfl rfl rfl rfl rfl (Or.inl rfl) hi12 ?_
      obtain ⟨hi13, H⟩ := H
      refine g_iast (pc' := 349) rfl rfl rfl rfl rfl rfl hi13 ?_
      refine g_s (pc' := 350) rfl ?_
      refine g_s (pc' := 351) rfl ?_
      refine g_getf (pc' := 354) (v := .int (yI w 1031 61)) rfl rfl rfl rfl rfl ?_
      refine g_psh (pc' := 355) (v' := .int 1) rfl (congrArg Value.int kc_i1) ?_
      refine g_s (pc' := 356) (st' := [.int ((yI w 1031 61) + (1 : Int32)), .ref 1031]) rfl ?_
      refine g_putI (pc' := 359) rfl rfl rfl rfl rfl rfl (fun _ => rfl) ?_
      refine g_s (pc' := 516) rfl ?_
      exact g_retv rfl rfl H
    | 18, _, hx =>
      refine ⟨255, rfl, ?_⟩
      replace H := H.2.2.2.2.2.2.1 (by omega)
      show zGo (d + 1) m_X9_findValue 362 [.ref 1031, .int a1, .int a2, .int a3, zJ] [] (yz w) (zKv F)
      refine g_s (pc' := 363) rfl ?_
      refine g_getf (pc' := 366) (v := .ref 1068) rfl rfl rfl rfl rfl ?_
      refine g_s (pc' := 367) rfl ?_
      refine g_getf (pc' := 370) (v := .int (yI w 1031 61)) rfl rfl rfl rfl rfl ?_
      refine g_psh (pc' := 371) (v' := .int 1) rfl (congrArg Value.int kc_i1) ?_
      refine g_s (pc' := 372) (st' := [.int ((yI w 1031 61) - (1 : Int32)), .ref 1068]) rfl ?_
      obtain ⟨hi14, H⟩ := H
      refine g_iald (pc' := 373) rfl rfl rfl rfl rfl (Or.inl rfl) hi14 ?_
      refine g_ist (k := 4) (pc' := 375) (ls' := [.ref 1031, .int a1, .int a2, .int a3, .int (yA w 1068 (Int32.toNatClampNeg ((yI w 1031 61) - (1 : Int32))))]) rfl rfl rfl rfl (zst1_of rfl (Or.inr rfl) rfl) ?_
      refine g_s (pc' := 376) rfl ?_
      refine g_getf (pc' := 379) (v := .ref 1068) rfl rfl rfl rfl rfl ?_
      refine g_s (pc' := 380) rfl ?_
      refine g_getf (pc' := 383) (v := .int (yI w 1031 61)) rfl rfl rfl rfl rfl ?_
      refine g_psh (pc' := 384) (v' := .int 1) rfl (congrArg Value.int kc_i1) ?_
      refine g_s (pc' := 385) (st' := [.int ((yI w 1031 61) - (1 : Int32)), .ref 1068]) rfl ?_
      refine g_s (pc' := 386) rfl ?_
      refine g_getf (pc' := 389) (v := .ref 1068) rfl rfl rfl rfl rfl ?_
      refine g_s (pc' := 390) rfl ?_
      refine g_getf (pc' := 393) (v := .int (yI w 1031 61)) rfl rfl rfl rfl rfl ?_
      refine g_psh (pc' := 394) (v' := .int 2) rfl (congrArg Value.int kc_i2) ?_
      refine g_s (pc' := 395) (st' := [.int ((yI w 1031 61) - (2 : Int32)), .ref 1068, .int ((yI w 1031 61) - (1 : Int32)), .ref 1068]) rfl ?_
      obtain ⟨hi15, H⟩ := H
      refine g_iald (pc' := 396) rfl rfl rfl rfl rfl (Or.inl rfl) hi15 ?_
      obtain ⟨hi16, H⟩ := H
      refine g_iast (pc' := 397) rfl rfl rfl rfl rfl rfl hi16 ?_
      refine g_s (pc' := 398) rfl ?_
      refine g_getf (pc' := 401) (v := .ref 1068) rfl rfl rfl rfl rfl ?_
      refine g_s (pc' := 402) rfl ?_
      refine g_getf (pc' := 405) (v := .int (yI w 1031 61)) rfl rfl rfl rfl rfl ?_
      refine g_psh (pc' := 406) (v' := .int 2) rfl (congrArg Value.int kc_i2) ?_
      refine g_s (pc' := 407) (st' := [.int ((yI w 1031 61) - (2 : Int32)), .ref 1068]) rfl ?_
      refine g_s (pc' := 409) rfl ?_
      obtain ⟨hi17, H⟩ := H
      refine g_iast (pc' := 410) rfl rfl rfl rfl rfl rfl hi17 ?_
      refine g_s (pc' := 516) rfl ?_
      exact g_retv rfl rfl H
    | 19, _, hx =>
      refine ⟨330, rfl, ?_⟩
      replace H := H.2.2.2.2.2.2.2.2.1 (by omega)
      show zGo (d + 1) m_X9_findValue 437 [.ref 1031, .int a1, .int a2, .int a3, zJ] [] (yz w) (zKv F)
      refine g_s (pc' := 438) rfl ?_
      refine g_s (pc' := 439) rfl ?_
      refine g_getf (pc' := 442) (v := .int (yI w 1031 61)) rfl rfl rfl rfl rfl ?_
      refine g_psh (pc' := 443) (v' := .int 1) rfl (congrArg Value.int kc_i1) ?_
      refine g_s (pc' := 444) (st' := [.int ((yI w 1031 61) - (1 : Int32)), .ref 1031]) rfl ?_
      refine g_putI (pc' := 447) rfl rfl rfl rfl rfl rfl (fun _ => rfl) ?_
      refine g_s (pc' := 516) rfl ?_
      exact g_retv rfl rfl H
    | 20, _, hx =>
      refine ⟨409, rfl, ?_⟩
      replace H := H.1 (by omega)
      show zGo (d + 1) m_X9_findValue 516 [.ref 1031, .int a1, .int a2, .int a3, zJ] [] (yz w) (zKv F)
      exact g_retv rfl rfl H
    | 21, _, hx =>
      refine ⟨306, rfl, ?_⟩
      replace H := H.2.2.2.2.2.2.2.1 (by omega)
      show zGo (d + 1) m_X9_findValue 413 [.ref 1031, .int a1, .int a2, .int a3, zJ] [] (yz w) (zKv F)
      refine g_s (pc' := 414) rfl ?_
      refine g_s (pc' := 415) rfl ?_
      refine g_getf (pc' := 418) (v := .ref 1068) rfl rfl rfl rfl rfl ?_
      refine g_s (pc' := 419) rfl ?_
      refine g_s (pc' := 420) rfl ?_
      refine g_getf (pc' := 423) (v := .int (yI w 1031 61)) rfl rfl rfl rfl rfl ?_
      refine g_psh (pc' := 424) (v' := .int 1) rfl (congrArg Value.int kc_i1) ?_
      refine g_s (pc' := 425) (st' := [.int ((yI w 1031 61) - (1 : Int32)), .ref 1031, .ref 1068, .ref 1031]) rfl ?_
      refine g_s (pc' := 426) rfl ?_
      refine g_putI (pc' := 429) rfl rfl rfl rfl rfl rfl (fun _ => rfl) ?_
      obtain ⟨hi18, H⟩ := H
      refine g_iald (pc' := 430) rfl rfl rfl rfl rfl (Or.inl rfl) hi18 ?_
      refine g_s (pc' := 431) rfl ?_
      refine g_callv (a := m_X9_guard) (as := [.ref 1031, .int (yA w 1068 (Int32.toNatClampNeg ((yI w 1031 61) - (1 : Int32)))), .int a1]) (rest := []) (ls0 := [.ref 1031, .int (yA w 1068 (Int32.toNatClampNeg ((yI w 1031 61) - (1 : Int32)))), .int a1]) (pc' := 434) (t_virt rfl rfl rfl rfl rfl rfl) rfl rfl rfl ?_
      refine zGo.mono H (zKv_mono ?_)
      intro w19 H
      refine g_s (pc' := 516) rfl ?_
      exact g_retv rfl rfl H
    | 22, _, hx =>
      refine ⟨306, rfl, ?_⟩
      replace H := H.2.2.2.2.2.2.2.1 (by omega)
      show zGo (d + 1) m_X9_findValue 413 [.ref 1031, .int a1, .int a2, .int a3, zJ] [] (yz w) (zKv F)
      refine g_s (pc' := 414) rfl ?_
      refine g_s (pc' := 415) rfl ?_
      refine g_getf (pc' := 418) (v := .ref 1068) rfl rfl rfl rfl rfl ?_
      refine g_s (pc' := 419) rfl ?_
      refine g_s (pc' := 420) rfl ?_
      refine g_getf (pc' := 423) (v := .int (yI w 1031 61)) rfl rfl rfl rfl rfl ?_
      refine g_psh (pc' := 424) (v' := .int 1) rfl (congrArg Value.int kc_i1) ?_
      refine g_s (pc' := 425) (st' := [.int ((yI w 1031 61) - (1 : Int32)), .ref 1031, .ref 1068, .ref 1031]) rfl ?_
      refine g_s (pc' := 426) rfl ?_
      refine g_putI (pc' := 429) rfl rfl rfl rfl rfl rfl (fun _ => rfl) ?_
      obtain ⟨hi18, H⟩ := H
      refine g_iald (pc' := 430) rfl rfl rfl rfl rfl (Or.inl rfl) hi18 ?_
      refine g_s (pc' := 431) rfl ?_
      refine g_callv (a := m_X9_guard) (as := [.ref 1031, .int (yA w 1068 (Int32.toNatClampNeg ((yI w 1031 61) - (1 : Int32)))), .int a1]) (rest := []) (ls0 := [.ref 1031, .int (yA w 1068 (Int32.toNatClampNeg ((yI w 1031 61) - (1 : Int32)))), .int a1]) (pc' := 434) (t_virt rfl rfl rfl rfl rfl rfl) rfl rfl rfl ?_
      refine zGo.mono H (zKv_mono ?_)
      intro w19 H
      refine g_s (pc' := 516) rfl ?_
      exact g_retv rfl rfl H
    | 23, _, hx =>
      refine ⟨330, rfl, ?_⟩
      replace H := H.2.2.2.2.2.2.2.2.1 (by omega)
      show zGo (d + 1) m_X9_findValue 437 [.ref 1031, .int a1, .int a2, .int a3, zJ] [] (yz w) (zKv F)
      refine g_s (pc' := 438) rfl ?_
      refine g_s (pc' := 439) rfl ?_
      refine g_getf (pc' := 442) (v := .int (yI w 1031 61)) rfl rfl rfl rfl rfl ?_
      refine g_psh (pc' := 443) (v' := .int 1) rfl (congrArg Value.int kc_i1) ?_
      refine g_s (pc' := 444) (st' := [.int ((yI w 1031 61) - (1 : Int32)), .ref 1031]) rfl ?_
      refine g_putI (pc' := 447) rfl rfl rfl rfl rfl rfl (fun _ => rfl) ?_
      refine g_s (pc' := 516) rfl ?_
      exact g_retv rfl rfl H
    | 24, _, hx =>
      refine ⟨343, rfl, ?_⟩
      replace H := H.2.2.2.2.2.2.2.2.2.1 (by omega)
      show zGo (d + 1) m_X9_findValue 450 [.ref 1031, .int a1, .int a2, .int a3, zJ] [] (yz w) (zKv F)
      refine g_s (pc' := 451) rfl ?_
      refine g_getf (pc' := 454) (v := .ref 1068) rfl rfl rfl rfl rfl ?_
      refine g_s (pc' := 455) rfl ?_
      refine g_getf (pc' := 458) (v := .int (yI w 1031 61)) rfl rfl rfl rfl rfl ?_
      refine g_psh (pc' := 459) (v' := .int 1) rfl (congrArg Value.int kc_i1) ?_
      refine g_s (pc' := 460) (st' := [.int ((yI w 1031 61) - (1 : Int32)), .ref 1068]) rfl ?_
      refine g_s (pc' := 461) rfl ?_
      refine g_s (pc' := 462) rfl ?_
      refine g_getf (pc' := 465) (v := .ref 1068) rfl rfl rfl rfl rfl ?_
      refine g_s (pc' := 466) rfl ?_
      refine g_getf (pc' := 469) (v := .int (yI w 1031 61)) rfl rfl rfl rfl rfl ?_
      refine g_psh (pc' := 470) (v' := .int 1) rfl (congrArg Value.int kc_i1) ?_
      refine g_s (pc' := 471) (st' := [.int ((yI w 1031 61) - (1 : Int32)), .ref 1068, .ref 1031, .int ((yI w 1031 61) - (1 : Int32)), .ref 1068]) rfl ?_
      obtain ⟨hi20, H⟩ := H
      refine g_iald (pc' := 472) rfl rfl rfl rfl rfl (Or.inl rfl) hi20 ?_
      refine g_calli (a := m_X9_peek) (as := [.ref 1031, .int (yA w 1068 (Int32.toNatClampNeg ((yI w 1031 61) - (1 : Int32))))]) (rest := [.int ((yI w 1031 61) - (1 : Int32)), .ref 1068]) (ls0 := [.ref 1031, .int (yA w 1068 (Int32.toNatClampNeg ((yI w 1031 61) - (1 : Int32)))), zJ]) (pc' := 475) (t_virt rfl rfl rfl rfl rfl rfl) rfl rfl rfl ?_
      refine zGo.mono H (zKi_mono ?_)
      intro v22 w21 H
      obtain ⟨hi23, H⟩ := H
      refine g_iast (pc' := 476) rfl rfl rfl rfl rfl rfl hi23 ?_
      refine g_s (pc' := 516) rfl ?_
      exact g_retv rfl rfl H
    | 25, _, hx =>
      refine ⟨372, rfl, ?_⟩
      replace H := H.2.2.2.2.2.2.2.2.2.2 (by omega)
      show zGo (d + 1) m_X9_findValue 479 [.ref 1031, .int a1, .int a2, .int a3, zJ] [] (yz w) (zKv F)
      refine g_s (pc' := 480) rfl ?_
      refine g_s (pc' := 481) rfl ?_
      refine g_getf (pc' := 484) (v := .int (yI w 1031 61)) rfl rfl rfl rfl rfl ?_
      refine g_psh (pc' := 485) (v' := .int 2) rfl (congrArg Value.int kc_i2) ?_
      refine g_s (pc' := 486) (st' := [.int ((yI w 1031 61) - (2 : Int32)), .ref 1031]) rfl ?_
      refine g_putI (pc' := 489) rfl rfl rfl rfl rfl rfl (fun _ => rfl) ?_
      refine g_s (pc' := 490) rfl ?_
      refine g_s (pc' := 491) rfl ?_
      refine g_getf (pc' := 494) (v := .ref 1068) rfl rfl rfl rfl rfl ?_
      refine g_s (pc' := 495) rfl ?_
      refine g_getf (pc' := 498) (v := .int ((yI w 1031 61) - (2 : Int32))) rfl rfl rfl rfl rfl ?_
      obtain ⟨hi24, H⟩ := H
      refine g_iald (pc' := 499) rfl rfl rfl rfl rfl (Or.inl rfl) hi24 ?_
      refine g_s (pc' := 500) rfl ?_
      refine g_getf (pc' := 503) (v := .ref 1068) rfl rfl rfl rfl rfl ?_
      refine g_s (pc' := 504) rfl ?_
      refine g_getf (pc' := 507) (v := .int ((yI w 1031 61) - (2 : Int32))) rfl rfl rfl rfl rfl ?_
      refine g_psh (pc' := 508) (v' := .int 1) rfl (congrArg Value.int kc_i1) ?_
      refine g_s (pc' := 509) (st' := [.int (((yI w 1031 61) - (2 : Int32)) + (1 : Int32)), .ref 1068, .int (yA w 1068 (Int32.toNatClampNeg ((yI w 1031 61) - (2 : Int32)))), .ref 1031]) rfl ?_
      obtain ⟨hi25, H⟩ := H
      refine g_iald (pc' := 510) rfl rfl rfl rfl rfl (Or.inl rfl) hi25 ?_
      refine g_callv (a := m_X9_poked) (as := [.ref 1031, .int (yA w 1068 (Int32.toNatClampNeg ((yI w 1031 61) - (2 : Int32)))), .int (yA w 1068 (Int32.toNatClampNeg (((yI w 1031 61) - (2 : Int32)) + (1 : Int32))))]) (rest := []) (ls0 := [.ref 1031, .int (yA w 1068 (Int32.toNatClampNeg ((yI w 1031 61) - (2 : Int32)))), .int (yA w 1068 (Int32.toNatClampNeg (((yI w 1031 61) - (2 : Int32)) + (1 : Int32)))), zJ]) (pc' := 513) (t_virt rfl rfl rfl rfl rfl rfl) rfl rfl rfl ?_
      refine zGo.mono H (zKv_mono ?_)
      intro w26 H
      refine g_s (pc' := 516) rfl ?_
      exact g_retv rfl rfl H
    | _ + 26, hj, _ => exact absurd hj (by omega)
set_option maxHeartbeats 4000000 in
theorem B_X9_findValues_0 {d : Nat} {w : zm} {F : zm → Prop} 
    (H : zGo (d + 1) m_X9_findValues 32 [.ref 1031, .int (0 : Int32)] [] (yz (yuI (yuI (yuI (yuI (yuI (yuI w 1031 51 (0 : Int32)) 1031 52 (0 : Int32)) 1031 53 (0 : Int32)) 1031 55 (0 : Int32)) 1031 62 (0 : Int32)) 1031 68 (0 : Int32))) (zKv F)) :
    zGo (d + 1) m_X9_findValues 0 [.ref 1031, zJ] [] (yz w) (zKv F) := by
  refine g_s (pc' := 1) rfl ?_
  refine g_psh (pc' := 2) (v' := .int 0) rfl (congrArg Value.int kc_i0) ?_
  refine g_putI (pc' := 5) rfl rfl rfl rfl rfl rfl (fun _ => rfl) ?_
  refine g_s (pc' := 6) rfl ?_
  refine g_psh (pc' := 7) (v' := .int 0) rfl (congrArg Value.int kc_i0) ?_
  refine g_putI (pc' := 10) rfl rfl rfl rfl rfl rfl (fun _ => rfl) ?_
  refine g_s (pc' := 11) rfl ?_
  refine g_psh (pc' := 12) (v' := .int 0) rfl (congrArg Value.int kc_i0) ?_
  refine g_putI (pc' := 15) rfl rfl rfl rfl rfl rfl (fun _ => rfl) ?_
  refine g_s (pc' := 16) rfl ?_
  refine g_psh (pc' := 17) (v' := .int 0) rfl (congrArg Value.int kc_i0) ?_
  refine g_putI (pc' := 20) rfl rfl rfl rfl rfl rfl (fun _ => rfl) ?_
  refine g_s (pc' := 21) rfl ?_
  refine g_psh (pc' := 22) (v' := .int 0) rfl (congrArg Value.int kc_i0) ?_
  refine g_putI (pc' := 25) rfl rfl rfl rfl rfl rfl (fun _ => rfl) ?_
  refine g_s (pc' := 26) rfl ?_
  refine g_psh (pc' := 27) (v' := .int 0) rfl (congrArg Value.int kc_i0) ?_
  refine g_putI (pc' := 30) rfl rfl rfl rfl rfl rfl (fun _ => rfl) ?_
  refine g_psh (pc' := 31) (v' := .int 0) rfl (congrArg Value.int kc_i0) ?_
  refine g_ist (k := 1) (pc' := 32) (ls' := [.ref 1031, .int (0 : Int32)]) rfl rfl rfl rfl (zst1_of rfl (Or.inr rfl) rfl) ?_
  exact H
set_option maxHeartbeats 4000000 in
theorem B_X9_findValues_32 {d : Nat} {w : zm} {F : zm → Prop} (a1 : Int32)
    (H : ((a1 < (32 : Int32) → (zin a1 32) ∧ zGo (d + 1) m_X9_findValues 32 [.ref 1031, .int (a1 + 1)] [] (yz (yuA w 1073 (Int32.toNatClampNeg a1) (-1 : Int32))) (zKv F)) ∧ (¬ a1 < (32 : Int32) → zGo (d + 1) m_X9_findValues 53 [.ref 1031, .int (0 : Int32)] [] (yz w) (zKv F)))) :
    zGo (d + 1) m_X9_findValues 32 [.ref 1031, .int a1] [] (yz w) (zKv F) := by
  refine g_s (pc' := 33) rfl ?_
  refine g_psh (pc' := 35) (v' := .int 32) rfl (congrArg Value.int kc_b32) ?_
  refine g_icge (pc' := 38) rfl rfl (fun hc => ?_) (fun hc => ?_)
  · replace H := H.1 hc
    refine g_s (pc' := 39) rfl ?_
    refine g_getf (pc' := 42) (v := .ref 1073) rfl rfl rfl rfl rfl ?_
    refine g_s (pc' := 43) rfl ?_
    refine g_psh (pc' := 44) (v' := .int (-1)) rfl (congrArg Value.int kc_im1) ?_
    obtain ⟨hi1, H⟩ := H
    refine g_iast (pc' := 45) rfl rfl rfl rfl rfl rfl hi1 ?_
    refine g_inc (pc' := 48) (ls' := [.ref 1031, .int (a1 + 1)]) rfl rfl rfl kc_i1 (zst1_of rfl (Or.inr rfl) rfl) ?_
    refine g_s (pc' := 32) rfl ?_
    exact H
  · replace H := H.2 hc
    refine g_psh (pc' := 52) (v' := .int 0) rfl (congrArg Value.int kc_i0) ?_
    refine g_ist (k := 1) (pc' := 53) (ls' := [.ref 1031, .int (0 : Int32)]) rfl rfl rfl rfl (zst1_of rfl (Or.inr rfl) rfl) ?_
    exact H
set_option maxHeartbeats 4000000 in
theorem B_X9_findValues_53 {d : Nat} {w : zm} {F : zm → Prop} (a1 : Int32)
    (H : ((a1 < (16 : Int32) → zGo d m_X9_value 0 [.ref 1031] [] (yz w) (zKi fun v2 w1 => (zin a1 16) ∧ zGo (d + 1) m_X9_findValues 53 [.ref 1031, .int (a1 + 1)] [] (yz (yuA w1 1067 (Int32.toNatClampNeg a1) v2)) (zKv F))) ∧ (¬ a1 < (16 : Int32) → zGo (d + 1) m_X9_findValues 85 [.ref 1031, .int (0 : Int32)] [] (yz (yuI w 1031 61 (yI w 1031 45))) (zKv F)))) :
    zGo (d + 1) m_X9_findValues 53 [.ref 1031, .int a1] [] (yz w) (zKv F) := by
  refine g_s (pc' := 54) rfl ?_
  refine g_psh (pc' := 56) (v' := .int 16) rfl (congrArg Value.int kc_b16) ?_
  refine g_icge (pc' := 59) rfl rfl (fun hc => ?_) (fun hc => ?_)
  · replace H := H.1 hc
    refine g_s (pc' := 60) rfl ?_
    refine g_getf (pc' := 63) (v := .ref 1067) rfl rfl rfl rfl rfl ?_
    refine g_s (pc' := 64) rfl ?_
    refine g_s (pc' := 65) rfl ?_
    refine g_calli (a := m_X9_value) (as := [.ref 1031]) (rest := [.int a1, .ref 1067]) (ls0 := [.ref 1031]) (pc' := 68) (t_virt rfl rfl rfl rfl rfl rfl) rfl rfl rfl ?_
    refine zGo.mono H (zKi_mono ?_)
    intro v2 w1 H
    obtain ⟨hi3, H⟩ := H
    refine g_iast (pc' := 69) rfl rfl rfl rfl rfl rfl hi3 ?_
    refine g_inc (pc' := 72) (ls' := [.ref 1031, .int (a1 + 1)]) rfl rfl rfl kc_i1 (zst1_of rfl (Or.inr rfl) rfl) ?_
    refine g_s (pc' := 53) rfl ?_
    exact H
  · replace H := H.2 hc
    refine g_s (pc' := 76) rfl ?_
    refine g_s (pc' := 77) rfl ?_
    refine g_getf (pc' := 80) (v := .int (yI w 1031 45)) rfl rfl rfl rfl rfl ?_
    refine g_putI (pc' := 83) rfl rfl rfl rfl rfl rfl (fun _ => rfl) ?_
    refine g_psh (pc' := 84) (v' := .int 0) rfl (congrArg Value.int kc_i0) ?_
    refine g_ist (k := 1) (pc' := 85) (ls' := [.ref 1031, .int (0 : Int32)]) rfl rfl rfl rfl (zst1_of rfl (Or.inr rfl) rfl) ?_
    exact H
set_option maxHeartbeats 4000000 in
theorem B_X9_findValues_85 {d : Nat} {w : zm} {F : zm → Prop} (a1 : Int32)
    (H : ((a1 < (yI w 1031 45) → zGo d m_X9_value 0 [.ref 1031] [] (yz w) (zKi fun v2 w1 => (zin a1 20) ∧ zGo (d + 1) m_X9_findValues 85 [.ref 1031, .int (a1 + 1)] [] (yz (yuA w1 1068 (Int32.toNatClampNeg a1) v2)) (zKv F))) ∧ (¬ a1 < (yI w 1031 45) → zGo (d + 1) m_X9_findValues 111 [.ref 1031, .int (0 : Int32)] [] (yz w) (zKv F)))) :
    zGo (d + 1) m_X9_findValues 85 [.ref 1031, .int a1] [] (yz w) (zKv F) := by
  refine g_s (pc' := 86) rfl ?_
  refine g_s (pc' := 87) rfl ?_
  refine g_getf (pc' := 90) (v := .int (yI w 1031 45)) rfl rfl rfl rfl rfl ?_
  refine g_icge (pc' := 93) rfl rfl (fun hc => ?_) (fun hc => ?_)
  · replace H := H.1 hc
    refine g_s (pc' := 94) rfl ?_
    refine g_getf (pc' := 97) (v := .ref 1068) rfl rfl rfl rfl rfl ?_
    refine g_s (pc' := 98) rfl ?_
    refine g_s (pc' := 99) rfl ?_
    refine g_calli (a := m_X9_value) (as := [.ref 1031]) (rest := [.int a1, .ref 1068]) (ls0 := [.ref 1031]) (pc' := 102) (t_virt rfl rfl rfl rfl rfl rfl) rfl rfl rfl ?_
    refine zGo.mono H (zKi_mono ?_)
    intro v2 w1 H
    obtain ⟨hi3, H⟩ := H
    refine g_iast (pc' := 103) rfl rfl rfl rfl rfl rfl hi3 ?_
    refine g_inc (pc' := 106) (ls' := [.ref 1031, .int (a1 + 1)]) rfl rfl rfl kc_i1 (zst1_of rfl (Or.inr rfl) rfl) ?_
    refine g_s (pc' := 85) rfl ?_
    exact H
  · replace H := H.2 hc
    refine g_psh (pc' := 110) (v' := .int 0) rfl (congrArg Value.int kc_i0) ?_
    refine g_ist (k := 1) (pc' := 111) (ls' := [.ref 1031, .int (0 : Int32)]) rfl rfl rfl rfl (zst1_of rfl (Or.inr rfl) rfl) ?_
    exact H
set_option maxHeartbeats 4000000 in
theorem B_X9_findValues_111 {d : Nat} {w : zm} {F : zm → Prop} (a1 : Int32)
    (H : ((a1 < (yI w 1031 46) → zGo d m_X9_findValue 0 [.ref 1031, .int a1, zJ, zJ, zJ] [] (yz w) (zKv fun w1 => zGo (d + 1) m_X9_findValues 111 [.ref 1031, .int (a1 + 1)] [] (yz w1) (zKv F))) ∧ (¬ a1 < (yI w 1031 46) → F w))) :
    zGo (d + 1) m_X9_findValues 111 [.ref 1031, .int a1] [] (yz w) (zKv F) := by
  refine g_s (pc' := 112) rfl ?_
  refine g_s (pc' := 113) rfl ?_
  refine g_getf (pc' := 116) (v := .int (yI w 1031 46)) rfl rfl rfl rfl rfl ?_
  refine g_icge (pc' := 119) rfl rfl (fun hc => ?_) (fun hc => ?_)
  · replace H := H.1 hc
    refine g_s (pc' := 120) rfl ?_
    refine g_s (pc' := 121) rfl ?_
    refine g_callv (a := m_X9_findValue) (as := [.ref 1031, .int a1]) (rest := []) (ls0 := [.ref 1031, .int a1, zJ, zJ, zJ]) (pc' := 124) (t_virt rfl rfl rfl rfl rfl rfl) rfl rfl rfl ?_
    refine zGo.mono H (zKv_mono ?_)
    intro w1 H
    refine g_inc (pc' := 127) (ls' := [.ref 1031, .int (a1 + 1)]) rfl rfl rfl kc_i1 (zst1_of rfl (Or.inr rfl) rfl) ?_
    refine g_s (pc' := 111) rfl ?_
    exact H
  · replace H := H.2 hc
    exact g_retv rfl rfl H
set_option maxHeartbeats 4000000 in
theorem B_X9_finish_0 {d : Nat} {w : zm} {F : zm → Prop} 
    (H : zGo d m_X9_findValues 0 [.ref 1031, zJ] [] (yz w) (zKv fun w1 => (((yI w1 1031 43) < 0 → zGo d m_X9_traceOf 0 [.ref 1031, .int (-1 : Int32), zJ] [] (yz w1) (zKi fun v3 w2 => (zin v3 16) ∧ (zin v3 16) ∧ (zin v3 16) ∧ (zin v3 16) ∧ (zin v3 16) ∧ (zin v3 16) ∧ (zin v3 16) ∧ (zin v3 16) ∧ zGo (d + 1) m_X9_finish 90 [.ref 1031, .int v3, .int (0 : Int32), zJ] [] (yz (yuA (yuA (yuA (yuA (yuA (yuA (yuA (yuA w2 1039 (Int32.toNatClampNeg v3) (yI w2 1031 42)) 1040 (Int32.toNatClampNeg v3) (yI w2 1031 46)) 1043 (Int32.toNatClampNeg v3) (yI w2 1031 51)) 1044 (Int32.toNatClampNeg v3) (yI w2 1031 52)) 1045 (Int32.toNatClampNeg v3) (yI w2 1031 53)) 1046 (Int32.toNatClampNeg v3) (0 : Int32)) 1047 (Int32.toNatClampNeg v3) (0 : Int32)) 1048 (Int32.toNatClampNeg v3) (0 : Int32))) (zKv F))) ∧ (¬ (yI w1 1031 43) < 0 → (zin (yI w1 1031 43) 16) ∧ (zin (yI w1 1031 43) 16) ∧ (zin (yI w1 1031 43) 16) ∧ (zin (((yI w1 1031 43) * (48 : Int32)) + (yI w1 1031 44)) 768) ∧ (zin (((yI w1 1031 43) * (4 : Int32)) + (yA w1 1048 (Int32.toNatClampNeg (yI w1 1031 43)))) 64) ∧ (zin (((yI w1 1031 43) * (4 : Int32)) + (yA w1 1048 (Int32.toNatClampNeg (yI w1 1031 43)))) 64) ∧ (zin (((yI w1 1031 43) * (4 : Int32)) + (yA w1 1048 (Int32.toNatClampNeg (yI w1 1031 43)))) 64) ∧ (zin (((yI w1 1031 43) * (4 : Int32)) + (yA w1 1048 (Int32.toNatClampNeg (yI w1 1031 43)))) 64) ∧ zGo (d + 1) m_X9_finish 287 [.ref 1031, .int (((yI w1 1031 43) * (4 : Int32)) + (yA w1 1048 (Int32.toNatClampNeg (yI w1 1031 43)))), .int (0 : Int32), zJ] [] (yz (yuA (yuA (yuA (yuA (yuA (yuA w1 1048 (Int32.toNatClampNeg (yI w1 1031 43)) ((yA w1 1048 (Int32.toNatClampNeg (yI w1 1031 43))) + (1 : Int32))) 1052 (Int32.toNatClampNeg (((yI w1 1031 43) * (48 : Int32)) + (yI w1 1031 44))) (((yI w1 1031 43) * (4 : Int32)) + (yA w1 1048 (Int32.toNatClampNeg (yI w1 1031 43))))) 1053 (Int32.toNatClampNeg (((yI w1 1031 43) * (4 : Int32)) + (yA w1 1048 (Int32.toNatClampNeg (yI w1 1031 43))))) (yI w1 1031 46)) 1056 (Int32.toNatClampNeg (((yI w1 1031 43) * (4 : Int32)) + (yA w1 1048 (Int32.toNatClampNeg (yI w1 1031 43))))) (yI w1 1031 51)) 1057 (Int32.toNatClampNeg (((yI w1 1031 43) * (4 : Int32)) + (yA w1 1048 (Int32.toNatClampNeg (yI w1 1031 43))))) (yI w1 1031 52)) 1058 (Int32.toNatClampNeg (((yI w1 1031 43) * (4 : Int32)) + (yA w1 1048 (Int32.toNatClampNeg (yI w1 1031 43))))) (yI w1 1031 53))) (zKv F))))) :
    zGo (d + 1) m_X9_finish 0 [.ref 1031, zJ, zJ, zJ] [] (yz w) (zKv F) := by
  refine g_s (pc' := 1) rfl ?_
  refine g_callv (a := m_X9_findValues) (as := [.ref 1031]) (rest := []) (ls0 := [.ref 1031, zJ]) (pc' := 4) (t_virt rfl rfl rfl rfl rfl rfl) rfl rfl rfl ?_
  refine zGo.mono H (zKv_mono ?_)
  intro w1 H
  refine g_s (pc' := 5) rfl ?_
  refine g_getf (pc' := 8) (v := .int (yI w1 1031 43)) rfl rfl rfl rfl rfl ?_
  refine g_ifge (pc' := 11) rfl rfl (fun hc => ?_) (fun hc => ?_)
  · replace H := H.1 hc
    refine g_s (pc' := 12) rfl ?_
    refine g_psh (pc' := 13) (v' := .int (-1)) rfl (congrArg Value.int kc_im1) ?_
    refine g_calli (a := m_X9_traceOf) (as := [.ref 1031, .int (-1 : Int32)]) (rest := []) (ls0 := [.ref 1031, .int (-1 : Int32), zJ]) (pc' := 16) (t_virt rfl rfl rfl rfl rfl rfl) rfl rfl rfl ?_
    refine zGo.mono H (zKi_mono ?_)
    intro v3 w2 H
    refine g_ist (k := 1) (pc' := 17) (ls' := [.ref 1031, .int v3, zJ, zJ]) rfl rfl rfl rfl (zst1_of rfl (Or.inr rfl) rfl) ?_
    refine g_s (pc' := 18) rfl ?_
    refine g_getf (pc' := 21) (v := .ref 1039) rfl rfl rfl rfl rfl ?_
    refine g_s (pc' := 22) rfl ?_
    refine g_s (pc' := 23) rfl ?_
    refine g_getf (pc' := 26) (v := .int (yI w2 1031 42)) rfl rfl rfl rfl rfl ?_
    obtain ⟨hi4, H⟩ := H
    refine g_iast (pc' := 27) rfl rfl rfl rfl rfl rfl hi4 ?_
    refine g_s (pc' := 28) rfl ?_
    refine g_getf (pc' := 31) (v := .ref 1040) rfl rfl rfl rfl rfl ?_
    refine g_s (pc' := 32) rfl ?_
    refine g_s (pc' := 33) rfl ?_
    refine g_getf (pc' := 36) (v := .int (yI w2 1031 46)) rfl rfl rfl rfl rfl ?_
    obtain ⟨hi5, H⟩ := H
    refine g_iast (pc' := 37) rfl rfl rfl rfl rfl rfl hi5 ?_
    refine g_s (pc' := 38) rfl ?_
    refine g_getf (pc' := 41) (v := .ref 1043) rfl rfl rfl rfl rfl ?_
    refine g_s (pc' := 42) rfl ?_
    refine g_s (pc' := 43) rfl ?_
    refine g_getf (pc' := 46) (v := .int (yI w2 1031 51)) rfl rfl rfl rfl rfl ?_
    obtain ⟨hi6, H⟩ := H
    refine g_iast (pc' := 47) rfl rfl rfl rfl rfl rfl hi6 ?_
    refine g_s (pc' := 48) rfl ?_
    refine g_getf (pc' := 51) (v := .ref 1044) rfl rfl rfl rfl rfl ?_
    refine g_s (pc' := 52) rfl ?_
    refine g_s (pc' := 53) rfl ?_
    refine g_getf (pc' := 56) (v := .int (yI w2 1031 52)) rfl rfl rfl rfl rfl ?_
    obtain ⟨hi7, H⟩ := H
    refine g_iast (pc' := 57) rfl rfl rfl rfl rfl rfl hi7 ?_
    refine g_s (pc' := 58) rfl ?_
    refine g_getf (pc' := 61) (v := .ref 1045) rfl rfl rfl rfl rfl ?_
    refine g_s (pc' := 62) rfl ?_
    refine g_s (pc' := 63) rfl ?_
    refine g_getf (pc' := 66) (v := .int (yI w2 1031 53)) rfl rfl rfl rfl rfl ?_
    obtain ⟨hi8, H⟩ := H
    refine g_iast (pc' := 67) rfl rfl rfl rfl rfl rfl hi8 ?_
    refine g_s (pc' := 68) rfl ?_
    refine g_getf (pc' := 71) (v := .ref 1046) rfl rfl rfl rfl rfl ?_
    refine g_s (pc' := 72) rfl ?_
    refine g_psh (pc' := 73) (v' := .int 0) rfl (congrArg Value.int kc_i0) ?_
    obtain ⟨hi9, H⟩ := H
    refine g_iast (pc' := 74) rfl rfl rfl rfl rfl rfl hi9 ?_
    refine g_s (pc' := 75) rfl ?_
    refine g_getf (pc' := 78) (v := .ref 1047) rfl rfl rfl rfl rfl ?_
    refine g_s (pc' := 79) rfl ?_
    refine g_psh (pc' := 80) (v' := .int 0) rfl (congrArg Value.int kc_i0) ?_
    obtain ⟨hi10, H⟩ := H
    refine g_iast (pc' := 81) rfl rfl rfl rfl rfl rfl hi10 ?_
    refine g_s (pc' := 82) rfl ?_
    refine g_getf (pc' := 85) (v := .ref 1048) rfl rfl rfl rfl rfl ?_
    refine g_s (pc' := 86) rfl ?_
    refine g_psh (pc' := 87) (v' := .int 0) rfl (congrArg Value.int kc_i0) ?_
    obtain ⟨hi11, H⟩ := H
    refine g_iast (pc' := 88) rfl rfl rfl rfl rfl rfl hi11 ?_
    refine g_psh (pc' := 89) (v' := .int 0) rfl (congrArg Value.int kc_i0) ?_
    refine g_ist (k := 2) (pc' := 90) (ls' := [.ref 1031, .int v3, .int (0 : Int32), zJ]) rfl rfl rfl rfl (zst1_of rfl (Or.inr rfl) rfl) ?_
    exact H
  · replace H := H.2 hc
    refine g_s (pc' := 198) rfl ?_
    refine g_getf (pc' := 201) (v := .int (yI w1 1031 43)) rfl rfl rfl rfl rfl ?_
    refine g_psh (pc' := 202) (v' := .int 4) rfl (congrArg Value.int kc_i4) ?_
    refine g_s (pc' := 203) (st' := [.int ((yI w1 1031 43) * (4 : Int32))]) rfl ?_
    refine g_s (pc' := 204) rfl ?_
    refine g_getf (pc' := 207) (v := .ref 1048) rfl rfl rfl rfl rfl ?_
    refine g_s (pc' := 208) rfl ?_
    refine g_getf (pc' := 211) (v := .int (yI w1 1031 43)) rfl rfl rfl rfl rfl ?_
    obtain ⟨hi12, H⟩ := H
    refine g_iald (pc' := 212) rfl rfl rfl rfl rfl (Or.inl rfl) hi12 ?_
    refine g_s (pc' := 213) (st' := [.int (((yI w1 1031 43) * (4 : Int32)) + (yA w1 1048 (Int32.toNatClampNeg (yI w1 1031 43))))]) rfl ?_
    refine g_ist (k := 1) (pc' := 214) (ls' := [.ref 1031, .int (((yI w1 1031 43) * (4 : Int32)) + (yA w1 1048 (Int32.toNatClampNeg (yI w1 1031 43)))), zJ, zJ]) rfl rfl rfl rfl (zst1_of rfl (Or.inr rfl) rfl) ?_
    refine g_s (pc' := 215) rfl ?_
    refine g_getf (pc' := 218) (v := .ref 1048) rfl rfl rfl rfl rfl ?_
    refine g_s (pc' := 219) rfl ?_
    refine g_getf (pc' := 222) (v := .int (yI w1 1031 43)) rfl rfl rfl rfl rfl ?_
    refine g_s (pc' := 223) rfl ?_
    obtain ⟨hi13, H⟩ := H
    refine g_iald (pc' := 224) rfl rfl rfl rfl rfl (Or.inl rfl) hi13 ?_
    refine g_psh (pc' := 225) (v' := .int 1) rfl (congrArg Value.int kc_i1) ?_
    refine g_s (pc' := 226) (st' := [.int ((yA w1 1048 (Int32.toNatClampNeg (yI w1 1031 43))) + (1 : Int32)), .int (yI w1 1031 43), .ref 1048]) rfl ?_
    obtain ⟨hi14, H⟩ := H
    refine g_iast (pc' := 227) rfl rfl rfl rfl rfl rfl hi14 ?_
    refine g_s (pc' := 228) rfl ?_
    refine g_getf (pc' := 231) (v := .ref 1052) rfl rfl rfl rfl rfl ?_
    refine g_s (pc' := 232) rfl ?_
    refine g_getf (pc' := 235) (v := .int (yI w1 1031 43)) rfl rfl rfl rfl rfl ?_
    refine g_psh (pc' := 237) (v' := .int 48) rfl (congrArg Value.int kc_b48) ?_
    refine g_s (pc' := 238) (st' := [.int ((yI w1 1031 43) * (48 : Int32)), .ref 1052]) rfl ?_
    refine g_s (pc' := 239) rfl ?_
    refine g_getf (pc' := 242) (v := .int (yI w1 1031 44)) rfl rfl rfl rfl rfl ?_
    refine g_s (pc' := 243) (st' := [.int (((yI w1 1031 43) * (48 : Int32)) + (yI w1 1031 44)), .ref 1052]) rfl ?_
    refine g_s (pc' := 244) rfl ?_
    obtain ⟨hi15, H⟩ := H
    refine g_iast (pc' := 245) rfl rfl rfl rfl rfl rfl hi15 ?_
    refine g_s (pc' := 246) rfl ?_
    refine g_getf (pc' := 249) (v := .ref 1053) rfl rfl rfl rfl rfl ?_
    refine g_s (pc' := 250) rfl ?_
    refine g_s (pc' := 251) rfl ?_
    refine g_getf (pc' := 254) (v := .int (yI w1 1031 46)) rfl rfl rfl rfl rfl ?_
    obtain ⟨hi16, H⟩ := H
    refine g_iast (pc' := 255) rfl rfl rfl rfl rfl rfl hi16 ?_
    refine g_s (pc' := 256) rfl ?_
    refine g_getf (pc' := 259) (v := .ref 1056) rfl rfl rfl rfl rfl ?_
    refine g_s (pc' := 260) rfl ?_
    refine g_s (pc' := 261) rfl ?_
    refine g_getf (pc' := 264) (v := .int (yI w1 1031 51)) rfl rfl rfl rfl rfl ?_
    obtain ⟨hi17, H⟩ := H
    refine g_iast (pc' := 265) rfl rfl rfl rfl rfl rfl hi17 ?_
    refine g_s (pc' := 266) rfl ?_
    refine g_getf (pc' := 269) (v := .ref 1057) rfl rfl rfl rfl rfl ?_
    refine g_s (pc' := 270) rfl ?_
    refine g_s (pc' := 271) rfl ?_
    refine g_getf (pc' := 274) (v := .int (yI w1 1031 52)) rfl rfl rfl rfl rfl ?_
    obtain ⟨hi18, H⟩ := H
    refine g_iast (pc' := 275) rfl rfl rfl rfl rfl rfl hi18 ?_
    refine g_s (pc' := 276) rfl ?_
    refine g_getf (pc' := 279) (v := .ref 1058) rfl rfl rfl rfl rfl ?_
    refine g_s (pc' := 280) rfl ?_
    refine g_s (pc' := 281) rfl ?_
    refine g_getf (pc' := 284) (v := .int (yI w1 1031 53)) rfl rfl rfl rfl rfl ?_
    obtain ⟨hi19, H⟩ := H
    refine g_iast (pc' := 285) rfl rfl rfl rfl rfl rfl hi19 ?_
    refine g_psh (pc' := 286) (v' := .int 0) rfl (congrArg Value.int kc_i0) ?_
    refine g_ist (k := 2) (pc' := 287) (ls' := [.ref 1031, .int (((yI w1 1031 43) * (4 : Int32)) + (yA w1 1048 (Int32.toNatClampNeg (yI w1 1031 43)))), .int (0 : Int32), zJ]) rfl rfl rfl rfl (zst1_of rfl (Or.inr rfl) rfl) ?_
    exact H
set_option maxHeartbeats 4000000 in
theorem B_X9_finish_90 {d : Nat} {w : zm} {F : zm → Prop} (a1 : Int32) (a2 : Int32)
    (H : ((a2 < (yI w 1031 46) → (zin a2 48) ∧ (zin ((a1 * (48 : Int32)) + a2) 768) ∧ (zin a2 48) ∧ (zin ((a1 * (48 : Int32)) + a2) 768) ∧ zGo (d + 1) m_X9_finish 90 [.ref 1031, .int a1, .int (a2 + 1), zJ] [] (yz (yuA (yuA w 1041 (Int32.toNatClampNeg ((a1 * (48 : Int32)) + a2)) (yA w 1059 (Int32.toNatClampNeg a2))) 1042 (Int32.toNatClampNeg ((a1 * (48 : Int32)) + a2)) (yA w 1060 (Int32.toNatClampNeg a2)))) (zKv F)) ∧ (¬ a2 < (yI w 1031 46) → zGo (d + 1) m_X9_finish 140 [.ref 1031, .int a1, .int (0 : Int32), zJ] [] (yz w) (zKv F)))) :
    zGo (d + 1) m_X9_finish 90 [.ref 1031, .int a1, .int a2, zJ] [] (yz w) (zKv F) := by
  refine g_s (pc' := 91) rfl ?_
  refine g_s (pc' := 92) rfl ?_
  refine g_getf (pc' := 95) (v := .int (yI w 1031 46)) rfl rfl rfl rfl rfl ?_
  refine g_icge (pc' := 98) rfl rfl (fun hc => ?_) (fun hc => ?_)
  · replace H := H.1 hc
    refine g_s (pc' := 99) rfl ?_
    refine g_getf (pc' := 102) (v := .ref 1041) rfl rfl rfl rfl rfl ?_
    refine g_s (pc' := 103) rfl ?_
    refine g_psh (pc' := 105) (v' := .int 48) rfl (congrArg Value.int kc_b48) ?_
    refine g_s (pc' := 106) (st' := [.int (a1 * (48 : Int32)), .ref 1041]) rfl ?_
    refine g_s (pc' := 107) rfl ?_
    refine g_s (pc' := 108) (st' := [.int ((a1 * (48 : Int32)) + a2), .ref 1041]) rfl ?_
    refine g_s (pc' := 109) rfl ?_
    refine g_getf (pc' := 112) (v := .ref 1059) rfl rfl rfl rfl rfl ?_
    refine g_s (pc' := 113) rfl ?_
    obtain ⟨hi1, H⟩ := H
    refine g_iald (pc' := 114) rfl rfl rfl rfl rfl (Or.inl rfl) hi1 ?_
    obtain ⟨hi2, H⟩ := H
    refine g_iast (pc' := 115) rfl rfl rfl rfl rfl rfl hi2 ?_
    refine g_s (pc' := 116) rfl ?_
    refine g_getf (pc' := 119) (v := .ref 1042) rfl rfl rfl rfl rfl ?_
    refine g_s (pc' := 120) rfl ?_
    refine g_psh (pc' := 122) (v' := .int 48) rfl (congrArg Value.int kc_b48) ?_
    refine g_s (pc' := 123) (st' := [.int (a1 * (48 : Int32)), .ref 1042]) rfl ?_
    refine g_s (pc' := 124) rfl ?_
    refine g_s (pc' := 125) (st' := [.int ((a1 * (48 : Int32)) + a2), .ref 1042]) rfl ?_
    refine g_s (pc' := 126) rfl ?_
    refine g_getf (pc' := 129) (v := .ref 1060) rfl rfl rfl rfl rfl ?_
    refine g_s (pc' := 130) rfl ?_
    obtain ⟨hi3, H⟩ := H
    refine g_iald (pc' := 131) rfl rfl rfl rfl rfl (Or.inl rfl) hi3 ?_
    obtain ⟨hi4, H⟩ := H
    refine g_iast (pc' := 132) rfl rfl rfl rfl rfl rfl hi4 ?_
    refine g_inc (pc' := 135) (ls' := [.ref 1031, .int a1, .int (a2 + 1), zJ]) rfl rfl rfl kc_i1 (zst1_of rfl (Or.inr rfl) rfl) ?_
    refine g_s (pc' := 90) rfl ?_
    exact H
  · replace H := H.2 hc
    refine g_psh (pc' := 139) (v' := .int 0) rfl (congrArg Value.int kc_i0) ?_
    refine g_ist (k := 2) (pc' := 140) (ls' := [.ref 1031, .int a1, .int (0 : Int32), zJ]) rfl rfl rfl rfl (zst1_of rfl (Or.inr rfl) rfl) ?_
    exact H
set_option maxHeartbeats 4000000 in
theorem B_X9_finish_140 {d : Nat} {w : zm} {F : zm → Prop} (a1 : Int32) (a2 : Int32) (ua3 : Value) (hua3 : zisL ua3 = false)
    (H : ((a2 < (yI w 1031 51) → (zin a2 48) ∧ (zin ((a1 * (48 : Int32)) + a2) 768) ∧ (zin ((a1 * (48 : Int32)) + a2) 768) ∧ (zin ((a1 * (48 : Int32)) + a2) 768) ∧ (zin ((a1 * (48 : Int32)) + a2) 768) ∧ zGo (d + 1) m_X9_finish 140 [.ref 1031, .int a1, .int (a2 + 1), .int ((a1 * (48 : Int32)) + a2)] [] (yz (yuA (yuA (yuA (yuA w 1049 (Int32.toNatClampNeg ((a1 * (48 : Int32)) + a2)) (yA w 1063 (Int32.toNatClampNeg a2))) 1050 (Int32.toNatClampNeg ((a1 * (48 : Int32)) + a2)) (0 : Int32)) 1051 (Int32.toNatClampNeg ((a1 * (48 : Int32)) + a2)) (0 : Int32)) 1052 (Int32.toNatClampNeg ((a1 * (48 : Int32)) + a2)) (-1 : Int32))) (zKv F)) ∧ (¬ a2 < (yI w 1031 51) → F (yuI w 1031 42 (-1 : Int32))))) :
    zGo (d + 1) m_X9_finish 140 [.ref 1031, .int a1, .int a2, ua3] [] (yz w) (zKv F) := by
  refine g_s (pc' := 141) rfl ?_
  refine g_s (pc' := 142) rfl ?_
  refine g_getf (pc' := 145) (v := .int (yI w 1031 51)) rfl rfl rfl rfl rfl ?_
  refine g_icge (pc' := 148) rfl rfl (fun hc => ?_) (fun hc => ?_)
  · replace H := H.1 hc
    refine g_s (pc' := 149) rfl ?_
    refine g_psh (pc' := 151) (v' := .int 48) rfl (congrArg Value.int kc_b48) ?_
    refine g_s (pc' := 152) (st' := [.int (a1 * (48 : Int32))]) rfl ?_
    refine g_s (pc' := 153) rfl ?_
    refine g_s (pc' := 154) (st' := [.int ((a1 * (48 : Int32)) + a2)]) rfl ?_
    refine g_ist (k := 3) (pc' := 155) (ls' := [.ref 1031, .int a1, .int a2, .int ((a1 * (48 : Int32)) + a2)]) rfl rfl rfl rfl (zst1_of rfl (Or.inr rfl) rfl) ?_
    refine g_s (pc' := 156) rfl ?_
    refine g_getf (pc' := 159) (v := .ref 1049) rfl rfl rfl rfl rfl ?_
    refine g_s (pc' := 160) rfl ?_
    refine g_s (pc' := 161) rfl ?_
    refine g_getf (pc' := 164) (v := .ref 1063) rfl rfl rfl rfl rfl ?_
    refine g_s (pc' := 165) rfl ?_
    obtain ⟨hi1, H⟩ := H
    refine g_iald (pc' := 166) rfl rfl rfl rfl rfl (Or.inl rfl) hi1 ?_
    obtain ⟨hi2, H⟩ := H
    refine g_iast (pc' := 167) rfl rfl rfl rfl rfl rfl hi2 ?_
    refine g_s (pc' := 168) rfl ?_
    refine g_getf (pc' := 171) (v := .ref 1050) rfl rfl rfl rfl rfl ?_
    refine g_s (pc' := 172) rfl ?_
    refine g_psh (pc' := 173) (v' := .int 0) rfl (congrArg Value.int kc_i0) ?_
    obtain ⟨hi3, H⟩ := H
    refine g_iast (pc' := 174) rfl rfl rfl rfl rfl rfl hi3 ?_
    refine g_s (pc' := 175) rfl ?_
    refine g_getf (pc' := 178) (v := .ref 1051) rfl rfl rfl rfl rfl ?_
    refine g_s (pc' := 179) rfl ?_
    refine g_psh (pc' := 180) (v' := .int 0) rfl (congrArg Value.int kc_i0) ?_
    obtain ⟨hi4, H⟩ := H
    refine g_iast (pc' := 181) rfl rfl rfl rfl rfl rfl hi4 ?_
    refine g_s (pc' := 182) rfl ?_
    refine g_getf (pc' := 185) (v := .ref 1052) rfl rfl rfl rfl rfl ?_
    refine g_s (pc' := 186) rfl ?_
    refine g_psh (pc' := 187) (v' := .int (-1)) rfl (congrArg Value.int kc_im1) ?_
    obtain ⟨hi5, H⟩ := H
    refine g_iast (pc' := 188) rfl rfl rfl rfl rfl rfl hi5 ?_
    refine g_inc (pc' := 191) (ls' := [.ref 1031, .int a1, .int (a2 + 1), .int ((a1 * (48 : Int32)) + a2)]) rfl rfl rfl kc_i1 (zst1_of rfl (Or.inr rfl) rfl) ?_
    refine g_s (pc' := 140) rfl ?_
    exact H
  · replace H := H.2 hc
    refine g_s (pc' := 335) rfl ?_
    refine g_s (pc' := 336) rfl ?_
    refine g_psh (pc' := 337) (v' := .int (-1)) rfl (congrArg Value.int kc_im1) ?_
    refine g_putI (pc' := 340) rfl rfl rfl rfl rfl rfl (fun _ => rfl) ?_
    exact g_retv rfl rfl H
set_option maxHeartbeats 4000000 in
theorem B_X9_finish_287 {d : Nat} {w : zm} {F : zm → Prop} (a1 : Int32) (a2 : Int32)
    (H : ((a2 < (yI w 1031 46) → (zin a2 48) ∧ (zin ((a1 * (48 : Int32)) + a2) 3072) ∧ (zin a2 48) ∧ (zin ((a1 * (48 : Int32)) + a2) 3072) ∧ zGo (d + 1) m_X9_finish 287 [.ref 1031, .int a1, .int (a2 + 1), zJ] [] (yz (yuA (yuA w 1054 (Int32.toNatClampNeg ((a1 * (48 : Int32)) + a2)) (yA w 1059 (Int32.toNatClampNeg a2))) 1055 (Int32.toNatClampNeg ((a1 * (48 : Int32)) + a2)) (yA w 1060 (Int32.toNatClampNeg a2)))) (zKv F)) ∧ (¬ a2 < (yI w 1031 46) → F (yuI w 1031 42 (-1 : Int32))))) :
    zGo (d + 1) m_X9_finish 287 [.ref 1031, .int a1, .int a2, zJ] [] (yz w) (zKv F) := by
  refine g_s (pc' := 288) rfl ?_
  refine g_s (pc' := 289) rfl ?_
  refine g_getf (pc' := 292) (v := .int (yI w 1031 46)) rfl rfl rfl rfl rfl ?_
  refine g_icge (pc' := 295) rfl rfl (fun hc => ?_) (fun hc => ?_)
  · replace H := H.1 hc
    refine g_s (pc' := 296) rfl ?_
    refine g_getf (pc' := 299) (v := .ref 1054) rfl rfl rfl rfl rfl ?_
    refine g_s (pc' := 300) rfl ?_
    refine g_psh (pc' := 302) (v' := .int 48) rfl (congrArg Value.int kc_b48) ?_
    refine g_s (pc' := 303) (st' := [.int (a1 * (48 : Int32)), .ref 1054]) rfl ?_
    refine g_s (pc' := 304) rfl ?_
    refine g_s (pc' := 305) (st' := [.int ((a1 * (48 : Int32)) + a2), .ref 1054]) rfl ?_
    refine g_s (pc' := 306) rfl ?_
    refine g_getf (pc' := 309) (v := .ref 1059) rfl rfl rfl rfl rfl ?_
    refine g_s (pc' := 310) rfl ?_
    obtain ⟨hi1, H⟩ := H
    refine g_iald (pc' := 311) rfl rfl rfl rfl rfl (Or.inl rfl) hi1 ?_
    obtain ⟨hi2, H⟩ := H
    refine g_iast (pc' := 312) rfl rfl rfl rfl rfl rfl hi2 ?_
    refine g_s (pc' := 313) rfl ?_
    refine g_getf (pc' := 316) (v := .ref 1055) rfl rfl rfl rfl rfl ?_
    refine g_s (pc' := 317) rfl ?_
    refine g_psh (pc' := 319) (v' := .int 48) rfl (congrArg Value.int kc_b48) ?_
    refine g_s (pc' := 320) (st' := [.int (a1 * (48 : Int32)), .ref 1055]) rfl ?_
    refine g_s (pc' := 321) rfl ?_
    refine g_s (pc' := 322) (st' := [.int ((a1 * (48 : Int32)) + a2), .ref 1055]) rfl ?_
    refine g_s (pc' := 323) rfl ?_
    refine g_getf (pc' := 326) (v := .ref 1060) rfl rfl rfl rfl rfl ?_
    refine g_s (pc' := 327) rfl ?_
    obtain ⟨hi3, H⟩ := H
    refine g_iald (pc' := 328) rfl rfl rfl rfl rfl (Or.inl rfl) hi3 ?_
    obtain ⟨hi4, H⟩ := H
    refine g_iast (pc' := 329) rfl rfl rfl rfl rfl rfl hi4 ?_
    refine g_inc (pc' := 332) (ls' := [.ref 1031, .int a1, .int (a2 + 1), zJ]) rfl rfl rfl kc_i1 (zst1_of rfl (Or.inr rfl) rfl) ?_
    refine g_s (pc' := 287) rfl ?_
    exact H
  · replace H := H.2 hc
    refine g_s (pc' := 336) rfl ?_
    refine g_psh (pc' := 337) (v' := .int (-1)) rfl (congrArg Value.int kc_im1) ?_
    refine g_putI (pc' := 340) rfl rfl rfl rfl rfl rfl (fun _ => rfl) ?_
    exact g_retv rfl rfl H
set_option maxHeartbeats 4000000 in
theorem B_X9_follow_b_0 {d : Nat} {w : zm} {F : Int32 → zm → Prop} (a3 : Int32) (a4 : Int32)
    (H : zGo (d + 1) m_X9_follow 3 [.ref 1031, .ref 1054, .ref 1055, .int a3, .int a4, .int (0 : Int32)] [] (yz w) (zKi F)) :
    zGo (d + 1) m_X9_follow 0 [.ref 1031, .ref 1054, .ref 1055, .int a3, .int a4, zJ] [] (yz w) (zKi F) := by
  refine g_psh (pc' := 1) (v' := .int 0) rfl (congrArg Value.int kc_i0) ?_
  refine g_ist (k := 5) (pc' := 3) (ls' := [.ref 1031, .ref 1054, .ref 1055, .int a3, .int a4, .int (0 : Int32)]) rfl rfl rfl rfl (zst1_of rfl (Or.inr rfl) rfl) ?_
  exact H
set_option maxHeartbeats 4000000 in
theorem B_X9_follow_b_3 {d : Nat} {w : zm} {F : Int32 → zm → Prop} (a3 : Int32) (a4 : Int32) (a5 : Int32)
    (H : ((a5 < a4 → zGo d m_X9_breaks 0 [.ref 1031] [] (yz w) (zKi fun v2 w1 => ((v2 = 0 → zGo d m_X9_choice 0 [.ref 1031, zJ] [] (yz w1) (zKi fun v4 w3 => (zin (a3 + a5) 3072) ∧ ((v4 = (yA w3 1055 (Int32.toNatClampNeg (a3 + a5))) → zGo d m_X9_act 0 [.ref 1031, zJ, zJ, zJ] [] (yz w3) (zKv fun w6 => zGo (d + 1) m_X9_follow 3 [.ref 1031, .ref 1054, .ref 1055, .int a3, .int a4, .int (a5 + 1)] [] (yz w6) (zKi F))) ∧ (¬ v4 = (yA w3 1055 (Int32.toNatClampNeg (a3 + a5))) → zGo (d + 1) m_X9_follow 40 [.ref 1031, .ref 1054, .ref 1055, .int a3, .int a4, .int a5] [] (yz w3) (zKi F))))) ∧ (¬ v2 = 0 → zGo (d + 1) m_X9_follow 40 [.ref 1031, .ref 1054, .ref 1055, .int a3, .int a4, .int a5] [] (yz w1) (zKi F))))) ∧ (¬ a5 < a4 → zGo (d + 1) m_X9_follow 40 [.ref 1031, .ref 1054, .ref 1055, .int a3, .int a4, .int a5] [] (yz w) (zKi F)))) :
    zGo (d + 1) m_X9_follow 3 [.ref 1031, .ref 1054, .ref 1055, .int a3, .int a4, .int a5] [] (yz w) (zKi F) := by
  refine g_s (pc' := 5) rfl ?_
  refine g_s (pc' := 7) rfl ?_
  refine g_icge (pc' := 10) rfl rfl (fun hc => ?_) (fun hc => ?_)
  · replace H := H.1 hc
    refine g_s (pc' := 11) rfl ?_
    refine g_calli (a := m_X9_breaks) (as := [.ref 1031]) (rest := []) (ls0 := [.ref 1031]) (pc' := 14) (t_virt rfl rfl rfl rfl rfl rfl) rfl rfl rfl ?_
    refine zGo.mono H (zKi_mono ?_)
    intro v2 w1 H
    refine g_ifne (pc' := 17) rfl rfl (fun hc => ?_) (fun hc => ?_)
    · replace H := H.1 hc
      refine g_s (pc' := 18) rfl ?_
      refine g_calli (a := m_X9_choice) (as := [.ref 1031]) (rest := []) (ls0 := [.ref 1031, zJ]) (pc' := 21) (t_virt rfl rfl rfl rfl rfl rfl) rfl rfl rfl ?_
      refine zGo.mono H (zKi_mono ?_)
      intro v4 w3 H
      refine g_s (pc' := 22) rfl ?_
      refine g_s (pc' := 23) rfl ?_
      refine g_s (pc' := 25) rfl ?_
      refine g_s (pc' := 26) (st' := [.int (a3 + a5), .ref 1055, .int v4]) rfl ?_
      obtain ⟨hi5, H⟩ := H
      refine g_iald (pc' := 27) rfl rfl rfl rfl rfl (Or.inl rfl) hi5 ?_
      refine g_icne (pc' := 30) rfl rfl (fun hc => ?_) (fun hc => ?_)
      · replace H := H.1 hc
        refine g_s (pc' := 31) rfl ?_
        refine g_callv (a := m_X9_act) (as := [.ref 1031]) (rest := []) (ls0 := [.ref 1031, zJ, zJ, zJ]) (pc' := 34) (t_virt rfl rfl rfl rfl rfl rfl) rfl rfl rfl ?_
        refine zGo.mono H (zKv_mono ?_)
        intro w6 H
        refine g_inc (pc' := 37) (ls' := [.ref 1031, .ref 1054, .ref 1055, .int a3, .int a4, .int (a5 + 1)]) rfl rfl rfl kc_i1 (zst1_of rfl (Or.inr rfl) rfl) ?_
        refine g_s (pc' := 3) rfl ?_
        exact H
      · replace H := H.2 hc
        exact H
    · replace H := H.2 hc
      exact H
  · replace H := H.2 hc
    exact H
set_option maxHeartbeats 4000000 in
theorem B_X9_follow_b_40 {d : Nat} {w : zm} {F : Int32 → zm → Prop} (a3 : Int32) (a4 : Int32) (a5 : Int32)
    (H : F a5 (yuL w 1031 14 ((yL w 1031 14) + (Int32.toInt64 a5)))) :
    zGo (d + 1) m_X9_follow 40 [.ref 1031, .ref 1054, .ref 1055, .int a3, .int a4, .int a5] [] (yz w) (zKi F) := by
  refine g_s (pc' := 41) rfl ?_
  refine g_s (pc' := 42) rfl ?_
  refine g_getf (pc' := 45) (v := .long (yL w 1031 14)) rfl rfl rfl rfl rfl ?_
  refine g_s (pc' := 47) rfl ?_
  refine g_s (pc' := 48) (st' := [.long (Int32.toInt64 a5), .long (yL w 1031 14), .ref 1031]) rfl ?_
  refine g_s (pc' := 49) (st' := [.long ((yL w 1031 14) + (Int32.toInt64 a5)), .ref 1031]) rfl ?_
  refine g_putL (pc' := 52) rfl rfl rfl rfl rfl rfl (fun _ => rfl) ?_
  refine g_s (pc' := 54) rfl ?_
  exact g_reti rfl rfl H
set_option maxHeartbeats 4000000 in
theorem B_X9_follow_t_0 {d : Nat} {w : zm} {F : Int32 → zm → Prop} (a3 : Int32) (a4 : Int32)
    (H : zGo (d + 1) m_X9_follow 3 [.ref 1031, .ref 1041, .ref 1042, .int a3, .int a4, .int (0 : Int32)] [] (yz w) (zKi F)) :
    zGo (d + 1) m_X9_follow 0 [.ref 1031, .ref 1041, .ref 1042, .int a3, .int a4, zJ] [] (yz w) (zKi F) := by
  refine g_psh (pc' := 1) (v' := .int 0) rfl (congrArg Value.int kc_i0) ?_
  refine g_ist (k := 5) (pc' := 3) (ls' := [.ref 1031, .ref 1041, .ref 1042, .int a3, .int a4, .int (0 : Int32)]) rfl rfl rfl rfl (zst1_of rfl (Or.inr rfl) rfl) ?_
  exact H
set_option maxHeartbeats 4000000 in
theorem B_X9_follow_t_3 {d : Nat} {w : zm} {F : Int32 → zm → Prop} (a3 : Int32) (a4 : Int32) (a5 : Int32)
    (H : ((a5 < a4 → zGo d m_X9_breaks 0 [.ref 1031] [] (yz w) (zKi fun v2 w1 => ((v2 = 0 → zGo d m_X9_choice 0 [.ref 1031, zJ] [] (yz w1) (zKi fun v4 w3 => (zin (a3 + a5) 768) ∧ ((v4 = (yA w3 1042 (Int32.toNatClampNeg (a3 + a5))) → zGo d m_X9_act 0 [.ref 1031, zJ, zJ, zJ] [] (yz w3) (zKv fun w6 => zGo (d + 1) m_X9_follow 3 [.ref 1031, .ref 1041, .ref 1042, .int a3, .int a4, .int (a5 + 1)] [] (yz w6) (zKi F))) ∧ (¬ v4 = (yA w3 1042 (Int32.toNatClampNeg (a3 + a5))) → zGo (d + 1) m_X9_follow 40 [.ref 1031, .ref 1041, .ref 1042, .int a3, .int a4, .int a5] [] (yz w3) (zKi F))))) ∧ (¬ v2 = 0 → zGo (d + 1) m_X9_follow 40 [.ref 1031, .ref 1041, .ref 1042, .int a3, .int a4, .int a5] [] (yz w1) (zKi F))))) ∧ (¬ a5 < a4 → zGo (d + 1) m_X9_follow 40 [.ref 1031, .ref 1041, .ref 1042, .int a3, .int a4, .int a5] [] (yz w) (zKi F)))) :
    zGo (d + 1) m_X9_follow 3 [.ref 1031, .ref 1041, .ref 1042, .int a3, .int a4, .int a5] [] (yz w) (zKi F) := by
  refine g_s (pc' := 5) rfl ?_
  refine g_s (pc' := 7) rfl ?_
  refine g_icge (pc' := 10) rfl rfl (fun hc => ?_) (fun hc => ?_)
  · replace H := H.1 hc
    refine g_s (pc' := 11) rfl ?_
    refine g_calli (a := m_X9_breaks) (as := [.ref 1031]) (rest := []) (ls0 := [.ref 1031]) (pc' := 14) (t_virt rfl rfl rfl rfl rfl rfl) rfl rfl rfl ?_
    refine zGo.mono H (zKi_mono ?_)
    intro v2 w1 H
    refine g_ifne (pc' := 17) rfl rfl (fun hc => ?_) (fun hc => ?_)
    · replace H := H.1 hc
      refine g_s (pc' := 18) rfl ?_
      refine g_calli (a := m_X9_choice) (as := [.ref 1031]) (rest := []) (ls0 := [.ref 1031, zJ]) (pc' := 21) (t_virt rfl rfl rfl rfl rfl rfl) rfl rfl rfl ?_
      refine zGo.mono H (zKi_mono ?_)
      intro v4 w3 H
      refine g_s (pc' := 22) rfl ?_
      refine g_s (pc' := 23) rfl ?_
      refine g_s (pc' := 25) rfl ?_
      refine g_s (pc' := 26) (st' := [.int (a3 + a5), .ref 1042, .int v4]) rfl ?_
      obtain ⟨hi5, H⟩ := H
      refine g_iald (pc' := 27) rfl rfl rfl rfl rfl (Or.inl rfl) hi5 ?_
      refine g_icne (pc' := 30) rfl rfl (fun hc => ?_) (fun hc => ?_)
      · replace H := H.1 hc
        refine g_s (pc' := 31) rfl ?_
        refine g_callv (a := m_X9_act) (as := [.ref 1031]) (rest := []) (ls0 := [.ref 1031, zJ, zJ, zJ]) (pc' := 34) (t_virt rfl rfl rfl rfl rfl rfl) rfl rfl rfl ?_
        refine zGo.mono H (zKv_mono ?_)
        intro w6 H
        refine g_inc (pc' := 37) (ls' := [.ref 1031, .ref 1041, .ref 1042, .int a3, .int a4, .int (a5 + 1)]) rfl rfl rfl kc_i1 (zst1_of rfl (Or.inr rfl) rfl) ?_
        refine g_s (pc' := 3) rfl ?_
        exact H
      · replace H := H.2 hc
        exact H
    · replace H := H.2 hc
      exact H
  · replace H := H.2 hc
    exact H
set_option maxHeartbeats 4000000 in
theorem B_X9_follow_t_40 {d : Nat} {w : zm} {F : Int32 → zm → Prop} (a3 : Int32) (a4 : Int32) (a5 : Int32)
    (H : F a5 (yuL w 1031 14 ((yL w 1031 14) + (Int32.toInt64 a5)))) :
    zGo (d + 1) m_X9_follow 40 [.ref 1031, .ref 1041, .ref 1042, .int a3, .int a4, .int a5] [] (yz w) (zKi F) := by
  refine g_s (pc' := 41) rfl ?_
  refine g_s (pc' := 42) rfl ?_
  refine g_getf (pc' := 45) (v := .long (yL w 1031 14)) rfl rfl rfl rfl rfl ?_
  refine g_s (pc' := 47) rfl ?_
  refine g_s (pc' := 48) (st' := [.long (Int32.toInt64 a5), .long (yL w 1031 14), .ref 1031]) rfl ?_
  refine g_s (pc' := 49) (st' := [.long ((yL w 1031 14) + (Int32.toInt64 a5)), .ref 1031]) rfl ?_
  refine g_putL (pc' := 52) rfl rfl rfl rfl rfl rfl (fun _ => rfl) ?_
  refine g_s (pc' := 54) rfl ?_
  exact g_reti rfl rfl H
set_option maxHeartbeats 4000000 in
theorem B_X9_goesTo_0 {d : Nat} {w : zm} {F : Int32 → zm → Prop} 
    (H : zGo d m_X9_op 0 [.ref 1031, .int (yI w 1031 6)] [] (yz w) (zKi fun v2 w1 => ((v2 = (21 : Int32) → zGo (d + 1) m_X9_goesTo 60 [.ref 1031, .int v2, zJ] [.int (1 : Int32)] (yz w1) (zKi F)) ∧ (¬ v2 = (21 : Int32) → ((v2 = (22 : Int32) → (zin ((yI w1 1031 9) - (1 : Int32)) 20) ∧ (((yA w1 1034 (Int32.toNatClampNeg ((yI w1 1031 9) - (1 : Int32)))) = 0 → zGo (d + 1) m_X9_goesTo 35 [.ref 1031, .int v2, zJ] [] (yz w1) (zKi F)) ∧ (¬ (yA w1 1034 (Int32.toNatClampNeg ((yI w1 1031 9) - (1 : Int32)))) = 0 → zGo (d + 1) m_X9_goesTo 60 [.ref 1031, .int v2, zJ] [.int (1 : Int32)] (yz w1) (zKi F)))) ∧ (¬ v2 = (22 : Int32) → zGo (d + 1) m_X9_goesTo 35 [.ref 1031, .int v2, zJ] [] (yz w1) (zKi F))))))) :
    zGo (d + 1) m_X9_goesTo 0 [.ref 1031, zJ, zJ] [] (yz w) (zKi F) := by
  refine g_s (pc' := 1) rfl ?_
  refine g_s (pc' := 2) rfl ?_
  refine g_getf (pc' := 5) (v := .int (yI w 1031 6)) rfl rfl rfl rfl rfl ?_
  refine g_calli (a := m_X9_op) (as := [.ref 1031, .int (yI w 1031 6)]) (rest := []) (ls0 := [.ref 1031, .int (yI w 1031 6)]) (pc' := 8) (t_virt rfl rfl rfl rfl rfl rfl) rfl rfl rfl ?_
  refine zGo.mono H (zKi_mono ?_)
  intro v2 w1 H
  refine g_ist (k := 1) (pc' := 9) (ls' := [.ref 1031, .int v2, zJ]) rfl rfl rfl rfl (zst1_of rfl (Or.inr rfl) rfl) ?_
  refine g_s (pc' := 10) rfl ?_
  refine g_psh (pc' := 12) (v' := .int 21) rfl (congrArg Value.int kc_b21) ?_
  refine g_iceq (pc' := 15) rfl rfl (fun hc => ?_) (fun hc => ?_)
  · replace H := H.1 hc
    refine g_psh (pc' := 56) (v' := .int 1) rfl (congrArg Value.int kc_i1) ?_
    refine g_s (pc' := 60) rfl ?_
    exact H
  · replace H := H.2 hc
    refine g_s (pc' := 16) rfl ?_
    refine g_psh (pc' := 18) (v' := .int 22) rfl (congrArg Value.int kc_b22) ?_
    refine g_icne (pc' := 21) rfl rfl (fun hc => ?_) (fun hc => ?_)
    · replace H := H.1 hc
      refine g_s (pc' := 22) rfl ?_
      refine g_getf (pc' := 25) (v := .ref 1034) rfl rfl rfl rfl rfl ?_
      refine g_s (pc' := 26) rfl ?_
      refine g_getf (pc' := 29) (v := .int (yI w1 1031 9)) rfl rfl rfl rfl rfl ?_
      refine g_psh (pc' := 30) (v' := .int 1) rfl (congrArg Value.int kc_i1) ?_
      refine g_s (pc' := 31) (st' := [.int ((yI w1 1031 9) - (1 : Int32)), .ref 1034]) rfl ?_
      obtain ⟨hi3, H⟩ := H
      refine g_iald (pc' := 32) rfl rfl rfl rfl rfl (Or.inl rfl) hi3 ?_
      refine g_ifne (pc' := 35) rfl rfl (fun hc => ?_) (fun hc => ?_)
      · replace H := H.1 hc
        exact H
      · replace H := H.2 hc
        refine g_psh (pc' := 56) (v' := .int 1) rfl (congrArg Value.int kc_i1) ?_
        refine g_s (pc' := 60) rfl ?_
        exact H
    · replace H := H.2 hc
      exact H
set_option maxHeartbeats 4000000 in
theorem B_X9_goesTo_35 {d : Nat} {w : zm} {F : Int32 → zm → Prop} (a1 : Int32)
    (H : ((a1 = (23 : Int32) → (zin ((yI w 1031 9) - (1 : Int32)) 20) ∧ (((yA w 1034 (Int32.toNatClampNeg ((yI w 1031 9) - (1 : Int32)))) = 0 → zGo (d + 1) m_X9_goesTo 60 [.ref 1031, .int a1, zJ] [.int (1 : Int32)] (yz w) (zKi F)) ∧ (¬ (yA w 1034 (Int32.toNatClampNeg ((yI w 1031 9) - (1 : Int32)))) = 0 → zGo (d + 1) m_X9_goesTo 60 [.ref 1031, .int a1, zJ] [.int (0 : Int32)] (yz w) (zKi F)))) ∧ (¬ a1 = (23 : Int32) → zGo (d + 1) m_X9_goesTo 60 [.ref 1031, .int a1, zJ] [.int (0 : Int32)] (yz w) (zKi F)))) :
    zGo (d + 1) m_X9_goesTo 35 [.ref 1031, .int a1, zJ] [] (yz w) (zKi F) := by
  refine g_s (pc' := 36) rfl ?_
  refine g_psh (pc' := 38) (v' := .int 23) rfl (congrArg Value.int kc_b23) ?_
  refine g_icne (pc' := 41) rfl rfl (fun hc => ?_) (fun hc => ?_)
  · replace H := H.1 hc
    refine g_s (pc' := 42) rfl ?_
    refine g_getf (pc' := 45) (v := .ref 1034) rfl rfl rfl rfl rfl ?_
    refine g_s (pc' := 46) rfl ?_
    refine g_getf (pc' := 49) (v := .int (yI w 1031 9)) rfl rfl rfl rfl rfl ?_
    refine g_psh (pc' := 50) (v' := .int 1) rfl (congrArg Value.int kc_i1) ?_
    refine g_s (pc' := 51) (st' := [.int ((yI w 1031 9) - (1 : Int32)), .ref 1034]) rfl ?_
    obtain ⟨hi1, H⟩ := H
    refine g_iald (pc' := 52) rfl rfl rfl rfl rfl (Or.inl rfl) hi1 ?_
    refine g_ifne (pc' := 55) rfl rfl (fun hc => ?_) (fun hc => ?_)
    · replace H := H.1 hc
      refine g_psh (pc' := 56) (v' := .int 1) rfl (congrArg Value.int kc_i1) ?_
      refine g_s (pc' := 60) rfl ?_
      exact H
    · replace H := H.2 hc
      refine g_psh (pc' := 60) (v' := .int 0) rfl (congrArg Value.int kc_i0) ?_
      exact H
  · replace H := H.2 hc
    refine g_psh (pc' := 60) (v' := .int 0) rfl (congrArg Value.int kc_i0) ?_
    exact H
set_option maxHeartbeats 4000000 in
theorem B_X9_goesTo_60 {d : Nat} {w : zm} {F : Int32 → zm → Prop} (a1 : Int32) (s0 : Int32)
    (H : ((s0 = 0 → ((a1 = 0 → F (yI w 1031 6) w) ∧ (¬ a1 = 0 → F ((yI w 1031 6) + (1 : Int32)) w))) ∧ (¬ s0 = 0 → zGo d m_X9_argument 0 [.ref 1031, .int (yI w 1031 6)] [] (yz w) (zKi fun v2 w1 => F v2 w1)))) :
    zGo (d + 1) m_X9_goesTo 60 [.ref 1031, .int a1, zJ] [.int s0] (yz w) (zKi F) := by
  refine g_ist (k := 2) (pc' := 61) (ls' := [.ref 1031, .int a1, .int s0]) rfl rfl rfl rfl (zst1_of rfl (Or.inr rfl) rfl) ?_
  refine g_s (pc' := 62) rfl ?_
  refine g_ifeq (pc' := 65) rfl rfl (fun hc => ?_) (fun hc => ?_)
  · replace H := H.1 hc
    refine g_s (pc' := 77) rfl ?_
    refine g_ifne (pc' := 80) rfl rfl (fun hc => ?_) (fun hc => ?_)
    · replace H := H.1 hc
      refine g_s (pc' := 81) rfl ?_
      refine g_getf (pc' := 84) (v := .int (yI w 1031 6)) rfl rfl rfl rfl rfl ?_
      refine g_s (pc' := 93) rfl ?_
      exact g_reti rfl rfl H
    · replace H := H.2 hc
      refine g_s (pc' := 88) rfl ?_
      refine g_getf (pc' := 91) (v := .int (yI w 1031 6)) rfl rfl rfl rfl rfl ?_
      refine g_psh (pc' := 92) (v' := .int 1) rfl (congrArg Value.int kc_i1) ?_
      refine g_s (pc' := 93) (st' := [.int ((yI w 1031 6) + (1 : Int32))]) rfl ?_
      exact g_reti rfl rfl H
  · replace H := H.2 hc
    refine g_s (pc' := 66) rfl ?_
    refine g_s (pc' := 67) rfl ?_
    refine g_getf (pc' := 70) (v := .int (yI w 1031 6)) rfl rfl rfl rfl rfl ?_
    refine g_calli (a := m_X9_argument) (as := [.ref 1031, .int (yI w 1031 6)]) (rest := []) (ls0 := [.ref 1031, .int (yI w 1031 6)]) (pc' := 73) (t_virt rfl rfl rfl rfl rfl rfl) rfl rfl rfl ?_
    refine zGo.mono H (zKi_mono ?_)
    intro v2 w1 H
    refine g_s (pc' := 93) rfl ?_
    exact g_reti rfl rfl H
set_option maxHeartbeats 4000000 in
theorem B_X9_guard_0 {d : Nat} {w : zm} {F : zm → Prop} (a1 : Int32) (a2 : Int32)
    (H : (zin a1 400) ∧ (((yA w 1064 (Int32.toNatClampNeg a1)) = 0 → (zin a1 400) ∧ (((yA w 1066 (Int32.toNatClampNeg a1)) = 0 → (zin a1 400) ∧ (zin (yI w 1031 51) 48) ∧ F (yuI (yuA (yuA w 1066 (Int32.toNatClampNeg a1) (1 : Int32)) 1063 (Int32.toNatClampNeg (yI w 1031 51)) a2) 1031 51 ((yI w 1031 51) + (1 : Int32)))) ∧ (¬ (yA w 1066 (Int32.toNatClampNeg a1)) = 0 → F w))) ∧ (¬ (yA w 1064 (Int32.toNatClampNeg a1)) = 0 → F w))) :
    zGo d m_X9_guard 0 [.ref 1031, .int a1, .int a2] [] (yz w) (zKv F) := by
  refine g_s (pc' := 1) rfl ?_
  refine g_getf (pc' := 4) (v := .ref 1064) rfl rfl rfl rfl rfl ?_
  refine g_s (pc' := 5) rfl ?_
  obtain ⟨hi1, H⟩ := H
  refine g_zald (pc' := 6) rfl rfl rfl rfl rfl hi1 ?_
  refine g_ifne (pc' := 9) rfl rfl (fun hc => ?_) (fun hc => ?_)
  · replace H := H.1 hc
    refine g_s (pc' := 10) rfl ?_
    refine g_getf (pc' := 13) (v := .ref 1066) rfl rfl rfl rfl rfl ?_
    refine g_s (pc' := 14) rfl ?_
    obtain ⟨hi2, H⟩ := H
    refine g_zald (pc' := 15) rfl rfl rfl rfl rfl hi2 ?_
    refine g_ifeq (pc' := 18) rfl rfl (fun hc => ?_) (fun hc => ?_)
    · replace H := H.1 hc
      refine g_s (pc' := 20) rfl ?_
      refine g_getf (pc' := 23) (v := .ref 1066) rfl rfl rfl rfl rfl ?_
      refine g_s (pc' := 24) rfl ?_
      refine g_psh (pc' := 25) (v' := .int 1) rfl (congrArg Value.int kc_i1) ?_
      obtain ⟨hi3, H⟩ := H
      refine g_zast (pc' := 26) rfl rfl rfl rfl rfl rfl hi3 kz_1 ?_
      refine g_s (pc' := 27) rfl ?_
      refine g_getf (pc' := 30) (v := .ref 1063) rfl rfl rfl rfl rfl ?_
      refine g_s (pc' := 31) rfl ?_
      refine g_getf (pc' := 34) (v := .int (yI w 1031 51)) rfl rfl rfl rfl rfl ?_
      refine g_s (pc' := 35) rfl ?_
      obtain ⟨hi4, H⟩ := H
      refine g_iast (pc' := 36) rfl rfl rfl rfl rfl rfl hi4 ?_
      refine g_s (pc' := 37) rfl ?_
      refine g_s (pc' := 38) rfl ?_
      refine g_getf (pc' := 41) (v := .int (yI w 1031 51)) rfl rfl rfl rfl rfl ?_
      refine g_psh (pc' := 42) (v' := .int 1) rfl (congrArg Value.int kc_i1) ?_
      refine g_s (pc' := 43) (st' := [.int ((yI w 1031 51) + (1 : Int32)), .ref 1031]) rfl ?_
      refine g_putI (pc' := 46) rfl rfl rfl rfl rfl rfl (fun _ => rfl) ?_
      exact g_retv rfl rfl H
    · replace H := H.2 hc
      exact g_retv rfl rfl H
  · replace H := H.2 hc
    exact g_retv rfl rfl H
set_option maxHeartbeats 4000000 in
theorem B_X9_guard__0 {d : Nat} {w : zm} {F : Int32 → zm → Prop} (a1 : Int32) (a2 : Int32) (a3 : Int32)
    (H : ((a1 < 0 → zGo (d + 1) m_X9_guard_ 13 [.ref 1031, .int a1, .int a2, .int a3, zJ, zJ, zJ] [.int (-1 : Int32)] (yz w) (zKi F)) ∧ (¬ a1 < 0 → zGo d m_X9_traceOf 0 [.ref 1031, .int a1, zJ] [] (yz w) (zKi fun v2 w1 => zGo (d + 1) m_X9_guard_ 13 [.ref 1031, .int a1, .int a2, .int a3, zJ, zJ, zJ] [.int v2] (yz w1) (zKi F))))) :
    zGo (d + 1) m_X9_guard_ 0 [.ref 1031, .int a1, .int a2, .int a3, zJ, zJ, zJ] [] (yz w) (zKi F) := by
  refine g_s (pc' := 1) rfl ?_
  refine g_ifge (pc' := 4) rfl rfl (fun hc => ?_) (fun hc => ?_)
  · replace H := H.1 hc
    refine g_psh (pc' := 5) (v' := .int (-1)) rfl (congrArg Value.int kc_im1) ?_
    refine g_s (pc' := 13) rfl ?_
    exact H
  · replace H := H.2 hc
    refine g_s (pc' := 9) rfl ?_
    refine g_s (pc' := 10) rfl ?_
    refine g_calli (a := m_X9_traceOf) (as := [.ref 1031, .int a1]) (rest := []) (ls0 := [.ref 1031, .int a1, zJ]) (pc' := 13) (t_virt rfl rfl rfl rfl rfl rfl) rfl rfl rfl ?_
    refine zGo.mono H (zKi_mono ?_)
    intro v2 w1 H
    exact H
set_option maxHeartbeats 4000000 in
theorem B_X9_guard__13 {d : Nat} {w : zm} {F : Int32 → zm → Prop} (a1 : Int32) (a2 : Int32) (a3 : Int32) (s0 : Int32)
    (H : ((s0 < 0 → zGo (d + 1) m_X9_guard_ 53 [.ref 1031, .int a1, .int a2, .int a3, .int s0, zJ, zJ] [.int (1 : Int32), .ref 1031] (yz w) (zKi F)) ∧ (¬ s0 < 0 → (zin s0 16) ∧ zGo d m_X9_in 0 [.int a2, .int (0 : Int32), .int ((yA w 1043 (Int32.toNatClampNeg s0)) - (1 : Int32))] [] (yz w) (zKi fun v3 w2 => ((v3 = 0 → zGo (d + 1) m_X9_guard_ 53 [.ref 1031, .int a1, .int a2, .int a3, .int s0, zJ, zJ] [.int (1 : Int32), .ref 1031] (yz w2) (zKi F)) ∧ (¬ v3 = 0 → zGo d m_X9_in 0 [.int a3, .int (0 : Int32), .int (6 : Int32)] [] (yz w2) (zKi fun v5 w4 => ((v5 = 0 → zGo (d + 1) m_X9_guard_ 53 [.ref 1031, .int a1, .int a2, .int a3, .int s0, zJ, zJ] [.int (1 : Int32), .ref 1031] (yz w4) (zKi F)) ∧ (¬ v5 = 0 → zGo (d + 1) m_X9_guard_ 53 [.ref 1031, .int a1, .int a2, .int a3, .int s0, zJ, zJ] [.int (0 : Int32), .ref 1031] (yz w4) (zKi F)))))))))) :
    zGo (d + 1) m_X9_guard_ 13 [.ref 1031, .int a1, .int a2, .int a3, zJ, zJ, zJ] [.int s0] (yz w) (zKi F) := by
  refine g_ist (k := 4) (pc' := 15) (ls' := [.ref 1031, .int a1, .int a2, .int a3, .int s0, zJ, zJ]) rfl rfl rfl rfl (zst1_of rfl (Or.inr rfl) rfl) ?_
  refine g_s (pc' := 16) rfl ?_
  refine g_s (pc' := 18) rfl ?_
  refine g_iflt (pc' := 21) rfl rfl (fun hc => ?_) (fun hc => ?_)
  · replace H := H.1 hc
    refine g_psh (pc' := 53) (v' := .int 1) rfl (congrArg Value.int kc_i1) ?_
    exact H
  · replace H := H.2 hc
    refine g_s (pc' := 22) rfl ?_
    refine g_psh (pc' := 23) (v' := .int 0) rfl (congrArg Value.int kc_i0) ?_
    refine g_s (pc' := 24) rfl ?_
    refine g_getf (pc' := 27) (v := .ref 1043) rfl rfl rfl rfl rfl ?_
    refine g_s (pc' := 29) rfl ?_
    obtain ⟨hi1, H⟩ := H
    refine g_iald (pc' := 30) rfl rfl rfl rfl rfl (Or.inl rfl) hi1 ?_
    refine g_psh (pc' := 31) (v' := .int 1) rfl (congrArg Value.int kc_i1) ?_
    refine g_s (pc' := 32) (st' := [.int ((yA w 1043 (Int32.toNatClampNeg s0)) - (1 : Int32)), .int (0 : Int32), .int a2, .ref 1031]) rfl ?_
    refine g_calli (a := m_X9_in) (as := [.int a2, .int (0 : Int32), .int ((yA w 1043 (Int32.toNatClampNeg s0)) - (1 : Int32))]) (rest := [.ref 1031]) (ls0 := [.int a2, .int (0 : Int32), .int ((yA w 1043 (Int32.toNatClampNeg s0)) - (1 : Int32))]) (pc' := 35) (t_stat rfl (Or.inl rfl) rfl rfl rfl rfl) rfl rfl rfl ?_
    refine zGo.mono H (zKi_mono ?_)
    intro v3 w2 H
    refine g_ifeq (pc' := 38) rfl rfl (fun hc => ?_) (fun hc => ?_)
    · replace H := H.1 hc
      refine g_psh (pc' := 53) (v' := .int 1) rfl (congrArg Value.int kc_i1) ?_
      exact H
    · replace H := H.2 hc
      refine g_s (pc' := 39) rfl ?_
      refine g_psh (pc' := 40) (v' := .int 0) rfl (congrArg Value.int kc_i0) ?_
      refine g_psh (pc' := 42) (v' := .int 6) rfl (congrArg Value.int kc_b6) ?_
      refine g_calli (a := m_X9_in) (as := [.int a3, .int (0 : Int32), .int (6 : Int32)]) (rest := [.ref 1031]) (ls0 := [.int a3, .int (0 : Int32), .int (6 : Int32)]) (pc' := 45) (t_stat rfl (Or.inl rfl) rfl rfl rfl rfl) rfl rfl rfl ?_
      refine zGo.mono H (zKi_mono ?_)
      intro v5 w4 H
      refine g_ifeq (pc' := 48) rfl rfl (fun hc => ?_) (fun hc => ?_)
      · replace H := H.1 hc
        refine g_psh (pc' := 53) (v' := .int 1) rfl (congrArg Value.int kc_i1) ?_
        exact H
      · replace H := H.2 hc
        refine g_psh (pc' := 49) (v' := .int 0) rfl (congrArg Value.int kc_i0) ?_
        refine g_s (pc' := 53) rfl ?_
        exact H
set_option maxHeartbeats 4000000 in
theorem B_X9_guard__53 {d : Nat} {w : zm} {F : Int32 → zm → Prop} (a1 : Int32) (a2 : Int32) (a3 : Int32) (a4 : Int32) (s0 : Int32)
    (H : ((0 < s0 → F (0 : Int32) (yuI w 1031 1 s0)) ∧ (¬ 0 < s0 → (zin ((a4 * (48 : Int32)) + a2) 768) ∧ (((a3.toInt < 0 ∨ 5 < a3.toInt) → (((yA w 1052 (Int32.toNatClampNeg ((a4 * (48 : Int32)) + a2))) < 0 → F (0 : Int32) (yuI w 1031 1 s0)) ∧ (¬ (yA w 1052 (Int32.toNatClampNeg ((a4 * (48 : Int32)) + a2))) < 0 → (zin (yA w 1052 (Int32.toNatClampNeg ((a4 * (48 : Int32)) + a2))) 64) ∧ F (yA w 1058 (Int32.toNatClampNeg (yA w 1052 (Int32.toNatClampNeg ((a4 * (48 : Int32)) + a2))))) (yuI w 1031 1 s0)))) ∧ ((a3.toInt = 0) → (zin ((a4 * (48 : Int32)) + a2) 768) ∧ (zin ((a4 * (48 : Int32)) + (yA w 1049 (Int32.toNatClampNeg ((a4 * (48 : Int32)) + a2)))) 768) ∧ F (yA w 1041 (Int32.toNatClampNeg ((a4 * (48 : Int32)) + (yA w 1049 (Int32.toNatClampNeg ((a4 * (48 : Int32)) + a2)))))) (yuI w 1031 1 s0)) ∧ ((a3.toInt = 1) → (zin ((a4 * (48 : Int32)) + a2) 768) ∧ F (yA w 1050 (Int32.toNatClampNeg ((a4 * (48 : Int32)) + a2))) (yuI w 1031 1 s0)) ∧ ((a3.toInt = 2) → (((yA w 1052 (Int32.toNatClampNeg ((a4 * (48 : Int32)) + a2))) < 0 → F (0 : Int32) (yuI w 1031 1 s0)) ∧ (¬ (yA w 1052 (Int32.toNatClampNeg ((a4 * (48 : Int32)) + a2))) < 0 → (zin (yA w 1052 (Int32.toNatClampNeg ((a4 * (48 : Int32)) + a2))) 64) ∧ F (yA w 1053 (Int32.toNatClampNeg (yA w 1052 (Int32.toNatClampNeg ((a4 * (48 : Int32)) + a2))))) (yuI w 1031 1 s0)))) ∧ ((a3.toInt = 3) → (zin ((a4 * (48 : Int32)) + a2) 768) ∧ F (yA w 1051 (Int32.toNatClampNeg ((a4 * (48 : Int32)) + a2))) (yuI w 1031 1 s0)) ∧ ((a3.toInt = 4) → (((yA w 1052 (Int32.toNatClampNeg ((a4 * (48 : Int32)) + a2))) < 0 → F (0 : Int32) (yuI w 1031 1 s0)) ∧ (¬ (yA w 1052 (Int32.toNatClampNeg ((a4 * (48 : Int32)) + a2))) < 0 → (zin (yA w 1052 (Int32.toNatClampNeg ((a4 * (48 : Int32)) + a2))) 64) ∧ F (yA w 1056 (Int32.toNatClampNeg (yA w 1052 (Int32.toNatClampNeg ((a4 * (48 : Int32)) + a2))))) (yuI w 1031 1 s0)))) ∧ ((a3.toInt = 5) → (((yA w 1052 (Int32.toNatClampNeg ((a4 * (48 : Int32)) + a2))) < 0 → F (0 : Int32) (yuI w 1031 1 s0)) ∧ (¬ (yA w 1052 (Int32.toNatClampNeg ((a4 * (48 : Int32)) + a2))) < 0 → (zin (yA w 1052 (Int32.toNatClampNeg ((a4 * (48 : Int32)) + a2))) 64) ∧ F (yA w 1057 (Int32.toNatClampNeg (yA w 1052 (Int32.toNatClampNeg ((a4 * (48 : Int32)) + a2))))) (yuI w 1031 1 s0)))))))) :
    zGo (d + 1) m_X9_guard_ 53 [.ref 1031, .int a1, .int a2, .int a3, .int a4, zJ, zJ] [.int s0, .ref 1031] (yz w) (zKi F) := by
  refine g_putI (pc' := 56) rfl rfl rfl rfl rfl rfl (fun _ => rfl) ?_
  refine g_s (pc' := 57) rfl ?_
  refine g_getf (pc' := 60) (v := .int s0) rfl rfl rfl rfl rfl ?_
  refine g_ifle (pc' := 63) rfl rfl (fun hc => ?_) (fun hc => ?_)
  · replace H := H.1 hc
    refine g_psh (pc' := 64) (v' := .int 0) rfl (congrArg Value.int kc_i0) ?_
    exact g_reti rfl rfl H
  · replace H := H.2 hc
    refine g_s (pc' := 67) rfl ?_
    refine g_psh (pc' := 69) (v' := .int 48) rfl (congrArg Value.int kc_b48) ?_
    refine g_s (pc' := 70) (st' := [.int (a4 * (48 : Int32))]) rfl ?_
    refine g_s (pc' := 71) rfl ?_
    refine g_s (pc' := 72) (st' := [.int ((a4 * (48 : Int32)) + a2)]) rfl ?_
    refine g_ist (k := 5) (pc' := 74) (ls' := [.ref 1031, .int a1, .int a2, .int a3, .int a4, .int ((a4 * (48 : Int32)) + a2), zJ]) rfl rfl rfl rfl (zst1_of rfl (Or.inr rfl) rfl) ?_
    refine g_s (pc' := 75) rfl ?_
    refine g_getf (pc' := 78) (v := .ref 1052) rfl rfl rfl rfl rfl ?_
    refine g_s (pc' := 80) rfl ?_
    obtain ⟨hi1, H⟩ := H
    refine g_iald (pc' := 81) rfl rfl rfl rfl rfl (Or.inl rfl) hi1 ?_
    refine g_ist (k := 6) (pc' := 83) (ls' := [.ref 1031, .int a1, .int a2, .int a3, .int a4, .int ((a4 * (48 : Int32)) + a2), .int (yA w 1052 (Int32.toNatClampNeg ((a4 * (48 : Int32)) + a2)))]) rfl rfl rfl rfl (zst1_of rfl (Or.inr rfl) rfl) ?_
    refine g_s (pc' := 84) rfl ?_
    refine g_tsw rfl (fun hx => ?_) (fun j hx hy => ?_)
    · replace H := H.1 (by omega)
      show zGo (d + 1) m_X9_guard_ 210 [.ref 1031, .int a1, .int a2, .int a3, .int a4, .int ((a4 * (48 : Int32)) + a2), .int (yA w 1052 (Int32.toNatClampNeg ((a4 * (48 : Int32)) + a2)))] [] (yz (yuI w 1031 1 s0)) (zKi F)
      refine g_s (pc' := 212) rfl ?_
      refine g_ifge (pc' := 215) rfl rfl (fun hc => ?_) (fun hc => ?_)
      · replace H := H.1 hc
        refine g_psh (pc' := 216) (v' := .int 0) rfl (congrArg Value.int kc_i0) ?_
        refine g_s (pc' := 226) rfl ?_
        exact g_reti rfl rfl H
      · replace H := H.2 hc
        refine g_s (pc' := 220) rfl ?_
        refine g_getf (pc' := 223) (v := .ref 1058) rfl rfl rfl rfl rfl ?_
        refine g_s (pc' := 225) rfl ?_
        obtain ⟨hi2, H⟩ := H
        refine g_iald (pc' := 226) rfl rfl rfl rfl rfl (Or.inl rfl) hi2 ?_
        exact g_reti rfl rfl H
    · have hj : j < 6 := by omega
      match j, hj, hx with
      | 0, _, hx =>
        refine ⟨40, rfl, ?_⟩
        replace H := H.2.1 (by omega)
        show zGo (d + 1) m_X9_guard_ 124 [.ref 1031, .int a1, .int a2, .int a3, .int a4, .int ((a4 * (48 : Int32)) + a2), .int (yA w 1052 (Int32.toNatClampNeg ((a4 * (48 : Int32)) + a2)))] [] (yz (yuI w 1031 1 s0)) (zKi F)
        refine g_s (pc' := 125) rfl ?_
        refine g_getf (pc' := 128) (v := .ref 1041) rfl rfl rfl rfl rfl ?_
        refine g_s (pc' := 130) rfl ?_
        refine g_psh (pc' := 132) (v' := .int 48) rfl (congrArg Value.int kc_b48) ?_
        refine g_s (pc' := 133) (st' := [.int (a4 * (48 : Int32)), .ref 1041]) rfl ?_
        refine g_s (pc' := 134) rfl ?_
        refine g_getf (pc' := 137) (v := .ref 1049) rfl rfl rfl rfl rfl ?_
        refine g_s (pc' := 139) rfl ?_
        obtain ⟨hi3, H⟩ := H
        refine g_iald (pc' := 140) rfl rfl rfl rfl rfl (Or.inl rfl) hi3 ?_
        refine g_s (pc' := 141) (st' := [.int ((a4 * (48 : Int32)) + (yA w 1049 (Int32.toNatClampNeg ((a4 * (48 : Int32)) + a2)))), .ref 1041]) rfl ?_
        obtain ⟨hi4, H⟩ := H
        refine g_iald (pc' := 142) rfl rfl rfl rfl rfl (Or.inl rfl) hi4 ?_
        exact g_reti rfl rfl H
      | 1, _, hx =>
        refine ⟨59, rfl, ?_⟩
        replace H := H.2.2.1 (by omega)
        show zGo (d + 1) m_X9_guard_ 143 [.ref 1031, .int a1, .int a2, .int a3, .int a4, .int ((a4 * (48 : Int32)) + a2), .int (yA w 1052 (Int32.toNatClampNeg ((a4 * (48 : Int32)) + a2)))] [] (yz (yuI w 1031 1 s0)) (zKi F)
        refine g_s (pc' := 144) rfl ?_
        refine g_getf (pc' := 147) (v := .ref 1050) rfl rfl rfl rfl rfl ?_
        refine g_s (pc' := 149) rfl ?_
        obtain ⟨hi5, H⟩ := H
        refine g_iald (pc' := 150) rfl rfl rfl rfl rfl (Or.inl rfl) hi5 ?_
        exact g_reti rfl rfl H
      | 2, _, hx =>
        refine ⟨67, rfl, ?_⟩
        replace H := H.2.2.2.1 (by omega)
        show zGo (d + 1) m_X9_guard_ 151 [.ref 1031, .int a1, .int a2, .int a3, .int a4, .int ((a4 * (48 : Int32)) + a2), .int (yA w 1052 (Int32.toNatClampNeg ((a4 * (48 : Int32)) + a2)))] [] (yz (yuI w 1031 1 s0)) (zKi F)
        refine g_s (pc' := 153) rfl ?_
        refine g_ifge (pc' := 156) rfl rfl (fun hc => ?_) (fun hc => ?_)
        · replace H := H.1 hc
          refine g_psh (pc' := 157) (v' := .int 0) rfl (congrArg Value.int kc_i0) ?_
          refine g_s (pc' := 167) rfl ?_
          exact g_reti rfl rfl H
        · replace H := H.2 hc
          refine g_s (pc' := 161) rfl ?_
          refine g_getf (pc' := 164) (v := .ref 1053) rfl rfl rfl rfl rfl ?_
          refine g_s (pc' := 166) rfl ?_
          obtain ⟨hi6, H⟩ := H
          refine g_iald (pc' := 167) rfl rfl rfl rfl rfl (Or.inl rfl) hi6 ?_
          exact g_reti rfl rfl H
      | 3, _, hx =>
        refine ⟨84, rfl, ?_⟩
        replace H := H.2.2.2.2.1 (by omega)
        show zGo (d + 1) m_X9_guard_ 168 [.ref 1031, .int a1, .int a2, .int a3, .int a4, .int ((a4 * (48 : Int32)) + a2), .int (yA w 1052 (Int32.toNatClampNeg ((a4 * (48 : Int32)) + a2)))] [] (yz (yuI w 1031 1 s0)) (zKi F)
        refine g_s (pc' := 169) rfl ?_
        refine g_getf (pc' := 172) (v := .ref 1051) rfl rfl rfl rfl rfl ?_
        refine g_s (pc' := 174) rfl ?_
        obtain ⟨hi7, H⟩ := H
        refine g_iald (pc' := 175) rfl rfl rfl rfl rfl (Or.inl rfl) hi7 ?_
        exact g_reti rfl rfl H
      | 4, _, hx =>
        refine ⟨92, rfl, ?_⟩
        replace H := H.2.2.2.2.2.1 (by omega)
        show zGo (d + 1) m_X9_guard_ 176 [.ref 1031, .int a1, .int a2, .int a3, .int a4, .int ((a4 * (48 : Int32)) + a2), .int (yA w 1052 (Int32.toNatClampNeg ((a4 * (48 : Int32)) + a2)))] [] (yz (yuI w 1031 1 s0)) (zKi F)
        refine g_s (pc' := 178) rfl ?_
        refine g_ifge (pc' := 181) rfl rfl (fun hc => ?_) (fun hc => ?_)
        · replace H := H.1 hc
          refine g_psh (pc' := 182) (v' := .int 0) rfl (congrArg Value.int kc_i0) ?_
          refine g_s (pc' := 192) rfl ?_
          exact g_reti rfl rfl H
        · replace H := H.2 hc
          refine g_s (pc' := 186) rfl ?_
          refine g_getf (pc' := 189) (v := .ref 1056) rfl rfl rfl rfl rfl ?_
          refine g_s (pc' := 191) rfl ?_
          obtain ⟨hi8, H⟩ := H
          refine g_iald (pc' := 192) rfl rfl rfl rfl rfl (Or.inl rfl) hi8 ?_
          exact g_reti rfl rfl H
      | 5, _, hx =>
        refine ⟨109, rfl, ?_⟩
        replace H := H.2.2.2.2.2.2 (by omega)
        show zGo (d + 1) m_X9_guard_ 193 [.ref 1031, .int a1, .int a2, .int a3, .int a4, .int ((a4 * (48 : Int32)) + a2), .int (yA w 1052 (Int32.toNatClampNeg ((a4 * (48 : Int32)) + a2)))] [] (yz (yuI w 1031 1 s0)) (zKi F)
        refine g_s (pc' := 195) rfl ?_
        refine g_ifge (pc' := 198) rfl rfl (fun hc => ?_) (fun hc => ?_)
        · replace H := H.1 hc
          refine g_psh (pc' := 199) (v' := .int 0) rfl (congrArg Value.int kc_i0) ?_
          refine g_s (pc' := 209) rfl ?_
          exact g_reti rfl rfl H
        · replace H := H.2 hc
          refine g_s (pc' := 203) rfl ?_
          refine g_getf (pc' := 206) (v := .ref 1057) rfl rfl rfl rfl rfl ?_
          refine g_s (pc' := 208) rfl ?_
          obtain ⟨hi9, H⟩ := H
          refine g_iald (pc' := 209) rfl rfl rfl rfl rfl (Or.inl rfl) hi9 ?_
          exact g_reti rfl rfl H
      | _ + 6, hj, _ => exact absurd hj (by omega)
set_option maxHeartbeats 4000000 in
theorem B_X9_heat_0 {d : Nat} {w : zm} {F : Int32 → zm → Prop} (a1 : Int32)
    (H : zGo d m_X9_in 0 [.int a1, .int (0 : Int32), .int ((yI w 1031 3) - (1 : Int32))] [] (yz w) (zKi fun v2 w1 => ((v2 = 0 → zGo (d + 1) m_X9_heat 20 [.ref 1031, .int a1] [.int (1 : Int32), .ref 1031] (yz w1) (zKi F)) ∧ (¬ v2 = 0 → zGo (d + 1) m_X9_heat 20 [.ref 1031, .int a1] [.int (0 : Int32), .ref 1031] (yz w1) (zKi F))))) :
    zGo (d + 1) m_X9_heat 0 [.ref 1031, .int a1] [] (yz w) (zKi F) := by
  refine g_s (pc' := 1) rfl ?_
  refine g_s (pc' := 2) rfl ?_
  refine g_psh (pc' := 3) (v' := .int 0) rfl (congrArg Value.int kc_i0) ?_
  refine g_s (pc' := 4) rfl ?_
  refine g_getf (pc' := 7) (v := .int (yI w 1031 3)) rfl rfl rfl rfl rfl ?_
  refine g_psh (pc' := 8) (v' := .int 1) rfl (congrArg Value.int kc_i1) ?_
  refine g_s (pc' := 9) (st' := [.int ((yI w 1031 3) - (1 : Int32)), .int (0 : Int32), .int a1, .ref 1031]) rfl ?_
  refine g_calli (a := m_X9_in) (as := [.int a1, .int (0 : Int32), .int ((yI w 1031 3) - (1 : Int32))]) (rest := [.ref 1031]) (ls0 := [.int a1, .int (0 : Int32), .int ((yI w 1031 3) - (1 : Int32))]) (pc' := 12) (t_stat rfl (Or.inl rfl) rfl rfl rfl rfl) rfl rfl rfl ?_
  refine zGo.mono H (zKi_mono ?_)
  intro v2 w1 H
  refine g_ifeq (pc' := 15) rfl rfl (fun hc => ?_) (fun hc => ?_)
  · replace H := H.1 hc
    refine g_psh (pc' := 20) (v' := .int 1) rfl (congrArg Value.int kc_i1) ?_
    exact H
  · replace H := H.2 hc
    refine g_psh (pc' := 16) (v' := .int 0) rfl (congrArg Value.int kc_i0) ?_
    refine g_s (pc' := 20) rfl ?_
    exact H
set_option maxHeartbeats 4000000 in
theorem B_X9_heat_20 {d : Nat} {w : zm} {F : Int32 → zm → Prop} (a1 : Int32) (s0 : Int32)
    (H : ((0 < s0 → F (0 : Int32) (yuI w 1031 1 s0)) ∧ (¬ 0 < s0 → (zin a1 200) ∧ F (yA w 1037 (Int32.toNatClampNeg a1)) (yuI w 1031 1 s0)))) :
    zGo (d + 1) m_X9_heat 20 [.ref 1031, .int a1] [.int s0, .ref 1031] (yz w) (zKi F) := by
  refine g_putI (pc' := 23) rfl rfl rfl rfl rfl rfl (fun _ => rfl) ?_
  refine g_s (pc' := 24) rfl ?_
  refine g_getf (pc' := 27) (v := .int s0) rfl rfl rfl rfl rfl ?_
  refine g_ifle (pc' := 30) rfl rfl (fun hc => ?_) (fun hc => ?_)
  · replace H := H.1 hc
    refine g_psh (pc' := 31) (v' := .int 0) rfl (congrArg Value.int kc_i0) ?_
    refine g_s (pc' := 40) rfl ?_
    exact g_reti rfl rfl H
  · replace H := H.2 hc
    refine g_s (pc' := 35) rfl ?_
    refine g_getf (pc' := 38) (v := .ref 1037) rfl rfl rfl rfl rfl ?_
    refine g_s (pc' := 39) rfl ?_
    obtain ⟨hi1, H⟩ := H
    refine g_iald (pc' := 40) rfl rfl rfl rfl rfl (Or.inl rfl) hi1 ?_
    exact g_reti rfl rfl H
set_option maxHeartbeats 4000000 in
theorem B_X9_height_0 {d : Nat} {w : zm} {F : Int32 → zm → Prop} 
    (H : F (yI w 1031 9) (yuI w 1031 1 (0 : Int32))) :
    zGo d m_X9_height 0 [.ref 1031] [] (yz w) (zKi F) := by
  refine g_s (pc' := 1) rfl ?_
  refine g_psh (pc' := 2) (v' := .int 0) rfl (congrArg Value.int kc_i0) ?_
  refine g_putI (pc' := 5) rfl rfl rfl rfl rfl rfl (fun _ => rfl) ?_
  refine g_s (pc' := 6) rfl ?_
  refine g_getf (pc' := 9) (v := .int (yI w 1031 9)) rfl rfl rfl rfl rfl ?_
  exact g_reti rfl rfl H
set_option maxHeartbeats 4000000 in
theorem B_X9_in_0 {d : Nat} {w : zm} {F : Int32 → zm → Prop} (a0 : Int32) (a1 : Int32) (a2 : Int32)
    (H : ((a0 < a1 → F (0 : Int32) w) ∧ (¬ a0 < a1 → ((a2 < a0 → F (0 : Int32) w) ∧ (¬ a2 < a0 → F (1 : Int32) w))))) :
    zGo d m_X9_in 0 [.int a0, .int a1, .int a2] [] (yz w) (zKi F) := by
  refine g_s (pc' := 1) rfl ?_
  refine g_s (pc' := 2) rfl ?_
  refine g_iclt (pc' := 5) rfl rfl (fun hc => ?_) (fun hc => ?_)
  · replace H := H.1 hc
    refine g_psh (pc' := 15) (v' := .int 0) rfl (congrArg Value.int kc_i0) ?_
    exact g_reti rfl (zbool _ (Or.inl rfl)) H
  · replace H := H.2 hc
    refine g_s (pc' := 6) rfl ?_
    refine g_s (pc' := 7) rfl ?_
    refine g_icgt (pc' := 10) rfl rfl (fun hc => ?_) (fun hc => ?_)
    · replace H := H.1 hc
      refine g_psh (pc' := 15) (v' := .int 0) rfl (congrArg Value.int kc_i0) ?_
      exact g_reti rfl (zbool _ (Or.inl rfl)) H
    · replace H := H.2 hc
      refine g_psh (pc' := 11) (v' := .int 1) rfl (congrArg Value.int kc_i1) ?_
      refine g_s (pc' := 15) rfl ?_
      exact g_reti rfl (zbool _ (Or.inr rfl)) H
set_option maxHeartbeats 4000000 in
theorem B_X9_invalidate_0 {d : Nat} {w : zm} {F : Int32 → zm → Prop} (a1 : Int32)
    (H : zGo d m_X9_in 0 [.int a1, .int (0 : Int32), .int ((yI w 1031 3) - (1 : Int32))] [] (yz w) (zKi fun v2 w1 => ((v2 = 0 → zGo (d + 1) m_X9_invalidate 20 [.ref 1031, .int a1, zJ] [.int (1 : Int32), .ref 1031] (yz w1) (zKi F)) ∧ (¬ v2 = 0 → zGo (d + 1) m_X9_invalidate 20 [.ref 1031, .int a1, zJ] [.int (0 : Int32), .ref 1031] (yz w1) (zKi F))))) :
    zGo (d + 1) m_X9_invalidate 0 [.ref 1031, .int a1, zJ] [] (yz w) (zKi F) := by
  refine g_s (pc' := 1) rfl ?_
  refine g_s (pc' := 2) rfl ?_
  refine g_psh (pc' := 3) (v' := .int 0) rfl (congrArg Value.int kc_i0) ?_
  refine g_s (pc' := 4) rfl ?_
  refine g_getf (pc' := 7) (v := .int (yI w 1031 3)) rfl rfl rfl rfl rfl ?_
  refine g_psh (pc' := 8) (v' := .int 1) rfl (congrArg Value.int kc_i1) ?_
  refine g_s (pc' := 9) (st' := [.int ((yI w 1031 3) - (1 : Int32)), .int (0 : Int32), .int a1, .ref 1031]) rfl ?_
  refine g_calli (a := m_X9_in) (as := [.int a1, .int (0 : Int32), .int ((yI w 1031 3) - (1 : Int32))]) (rest := [.ref 1031]) (ls0 := [.int a1, .int (0 : Int32), .int ((yI w 1031 3) - (1 : Int32))]) (pc' := 12) (t_stat rfl (Or.inl rfl) rfl rfl rfl rfl) rfl rfl rfl ?_
  refine zGo.mono H (zKi_mono ?_)
  intro v2 w1 H
  refine g_ifeq (pc' := 15) rfl rfl (fun hc => ?_) (fun hc => ?_)
  · replace H := H.1 hc
    refine g_psh (pc' := 20) (v' := .int 1) rfl (congrArg Value.int kc_i1) ?_
    exact H
  · replace H := H.2 hc
    refine g_psh (pc' := 16) (v' := .int 0) rfl (congrArg Value.int kc_i0) ?_
    refine g_s (pc' := 20) rfl ?_
    exact H
set_option maxHeartbeats 4000000 in
theorem B_X9_invalidate_20 {d : Nat} {w : zm} {F : Int32 → zm → Prop} (a1 : Int32) (s0 : Int32)
    (H : ((0 < s0 → F (0 : Int32) (yuI w 1031 1 s0)) ∧ (¬ 0 < s0 → zGo d m_X9_traceOf 0 [.ref 1031, .int a1, zJ] [] (yz (yuI w 1031 1 s0)) (zKi fun v2 w1 => ((v2 < 0 → zGo (d + 1) m_X9_invalidate 49 [.ref 1031, .int a1, .int v2] [] (yz w1) (zKi F)) ∧ (¬ v2 < 0 → (zin v2 16) ∧ zGo (d + 1) m_X9_invalidate 49 [.ref 1031, .int a1, .int v2] [] (yz (yuA w1 1039 (Int32.toNatClampNeg v2) (-1 : Int32))) (zKi F))))))) :
    zGo (d + 1) m_X9_invalidate 20 [.ref 1031, .int a1, zJ] [.int s0, .ref 1031] (yz w) (zKi F) := by
  refine g_putI (pc' := 23) rfl rfl rfl rfl rfl rfl (fun _ => rfl) ?_
  refine g_s (pc' := 24) rfl ?_
  refine g_getf (pc' := 27) (v := .int s0) rfl rfl rfl rfl rfl ?_
  refine g_ifle (pc' := 30) rfl rfl (fun hc => ?_) (fun hc => ?_)
  · replace H := H.1 hc
    refine g_psh (pc' := 31) (v' := .int 0) rfl (congrArg Value.int kc_i0) ?_
    exact g_reti rfl (zbool _ (Or.inl rfl)) H
  · replace H := H.2 hc
    refine g_s (pc' := 33) rfl ?_
    refine g_s (pc' := 34) rfl ?_
    refine g_calli (a := m_X9_traceOf) (as := [.ref 1031, .int a1]) (rest := []) (ls0 := [.ref 1031, .int a1, zJ]) (pc' := 37) (t_virt rfl rfl rfl rfl rfl rfl) rfl rfl rfl ?_
    refine zGo.mono H (zKi_mono ?_)
    intro v2 w1 H
    refine g_ist (k := 2) (pc' := 38) (ls' := [.ref 1031, .int a1, .int v2]) rfl rfl rfl rfl (zst1_of rfl (Or.inr rfl) rfl) ?_
    refine g_s (pc' := 39) rfl ?_
    refine g_iflt (pc' := 42) rfl rfl (fun hc => ?_) (fun hc => ?_)
    · replace H := H.1 hc
      exact H
    · replace H := H.2 hc
      refine g_s (pc' := 43) rfl ?_
      refine g_getf (pc' := 46) (v := .ref 1039) rfl rfl rfl rfl rfl ?_
      refine g_s (pc' := 47) rfl ?_
      refine g_psh (pc' := 48) (v' := .int (-1)) rfl (congrArg Value.int kc_im1) ?_
      obtain ⟨hi3, H⟩ := H
      refine g_iast (pc' := 49) rfl rfl rfl rfl rfl rfl hi3 ?_
      exact H
set_option maxHeartbeats 4000000 in
theorem B_X9_invalidate_49 {d : Nat} {w : zm} {F : Int32 → zm → Prop} (a1 : Int32) (a2 : Int32)
    (H : (zin a1 200) ∧ (zin a1 200) ∧ (((yI w 1031 42) = a1 → ((a2 < 0 → F (0 : Int32) (yuI (yuA (yuA w 1037 (Int32.toNatClampNeg a1) (0 : Int32)) 1038 (Int32.toNatClampNeg a1) (0 : Int32)) 1031 42 (-1 : Int32))) ∧ (¬ a2 < 0 → F (1 : Int32) (yuI (yuA (yuA w 1037 (Int32.toNatClampNeg a1) (0 : Int32)) 1038 (Int32.toNatClampNeg a1) (0 : Int32)) 1031 42 (-1 : Int32))))) ∧ (¬ (yI w 1031 42) = a1 → ((a2 < 0 → F (0 : Int32) (yuA (yuA w 1037 (Int32.toNatClampNeg a1) (0 : Int32)) 1038 (Int32.toNatClampNeg a1) (0 : Int32))) ∧ (¬ a2 < 0 → F (1 : Int32) (yuA (yuA w 1037 (Int32.toNatClampNeg a1) (0 : Int32)) 1038 (Int32.toNatClampNeg a1) (0 : Int32))))))) :
    zGo (d + 1) m_X9_invalidate 49 [.ref 1031, .int a1, .int a2] [] (yz w) (zKi F) := by
  refine g_s (pc' := 50) rfl ?_
  refine g_getf (pc' := 53) (v := .ref 1037) rfl rfl rfl rfl rfl ?_
  refine g_s (pc' := 54) rfl ?_
  refine g_psh (pc' := 55) (v' := .int 0) rfl (congrArg Value.int kc_i0) ?_
  obtain ⟨hi1, H⟩ := H
  refine g_iast (pc' := 56) rfl rfl rfl rfl rfl rfl hi1 ?_
  refine g_s (pc' := 57) rfl ?_
  refine g_getf (pc' := 60) (v := .ref 1038) rfl rfl rfl rfl rfl ?_
  refine g_s (pc' := 61) rfl ?_
  refine g_psh (pc' := 62) (v' := .int 0) rfl (congrArg Value.int kc_i0) ?_
  obtain ⟨hi2, H⟩ := H
  refine g_iast (pc' := 63) rfl rfl rfl rfl rfl rfl hi2 ?_
  refine g_s (pc' := 64) rfl ?_
  refine g_getf (pc' := 67) (v := .int (yI w 1031 42)) rfl rfl rfl rfl rfl ?_
  refine g_s (pc' := 68) rfl ?_
  refine g_icne (pc' := 71) rfl rfl (fun hc => ?_) (fun hc => ?_)
  · replace H := H.1 hc
    refine g_s (pc' := 72) rfl ?_
    refine g_psh (pc' := 73) (v' := .int (-1)) rfl (congrArg Value.int kc_im1) ?_
    refine g_putI (pc' := 76) rfl rfl rfl rfl rfl rfl (fun _ => rfl) ?_
    refine g_s (pc' := 77) rfl ?_
    refine g_iflt (pc' := 80) rfl rfl (fun hc => ?_) (fun hc => ?_)
    · replace H := H.1 hc
      refine g_psh (pc' := 85) (v' := .int 0) rfl (congrArg Value.int kc_i0) ?_
      exact g_reti rfl (zbool _ (Or.inl rfl)) H
    · replace H := H.2 hc
      refine g_psh (pc' := 81) (v' := .int 1) rfl (congrArg Value.int kc_i1) ?_
      refine g_s (pc' := 85) rfl ?_
      exact g_reti rfl (zbool _ (Or.inr rfl)) H
  · replace H := H.2 hc
    refine g_s (pc' := 77) rfl ?_
    refine g_iflt (pc' := 80) rfl rfl (fun hc => ?_) (fun hc => ?_)
    · replace H := H.1 hc
      refine g_psh (pc' := 85) (v' := .int 0) rfl (congrArg Value.int kc_i0) ?_
      exact g_reti rfl (zbool _ (Or.inl rfl)) H
    · replace H := H.2 hc
      refine g_psh (pc' := 81) (v' := .int 1) rfl (congrArg Value.int kc_i1) ?_
      refine g_s (pc' := 85) rfl ?_
      exact g_reti rfl (zbool _ (Or.inr rfl)) H
set_option maxHeartbeats 4000000 in
theorem B_X9_judge_0 {d : Nat} {w : zm} {F : Int32 → zm → Prop} 
    (H : zGo (d + 1) m_X9_judge 2 [.ref 1031, .int (0 : Int32), zJ] [] (yz w) (zKi F)) :
    zGo (d + 1) m_X9_judge 0 [.ref 1031, zJ, zJ] [] (yz w) (zKi F) := by
  refine g_psh (pc' := 1) (v' := .int 0) rfl (congrArg Value.int kc_i0) ?_
  refine g_ist (k := 1) (pc' := 2) (ls' := [.ref 1031, .int (0 : Int32), zJ]) rfl rfl rfl rfl (zst1_of rfl (Or.inr rfl) rfl) ?_
  exact H
set_option maxHeartbeats 4000000 in
theorem B_X9_judge_2 {d : Nat} {w : zm} {F : Int32 → zm → Prop} (a1 : Int32) (ua2 : Value) (hua2 : zisL ua2 = false)
    (H : ((a1 < (yI w 1031 3) → zGo d m_X9_op 0 [.ref 1031, .int a1] [] (yz w) (zKi fun v2 w1 => (((26 : Int32) < v2 → zGo d m_X9_at 0 [.ref 1031, .int (1 : Int32), .int a1] [] (yz w1) (zKi fun v4 w3 => F v4 w3)) ∧ (¬ (26 : Int32) < v2 → zGo d m_X9_argument 0 [.ref 1031, .int a1] [] (yz w1) (zKi fun v6 w5 => zGo d m_X9_op 0 [.ref 1031, .int a1] [] (yz w5) (zKi fun v8 w7 => ((v8 = (2 : Int32) → zGo (d + 1) m_X9_judge 51 [.ref 1031, .int a1, .int v6] [] (yz w7) (zKi F)) ∧ (¬ v8 = (2 : Int32) → zGo d m_X9_op 0 [.ref 1031, .int a1] [] (yz w7) (zKi fun v10 w9 => ((v10 = (3 : Int32) → zGo (d + 1) m_X9_judge 51 [.ref 1031, .int a1, .int v6] [] (yz w9) (zKi F)) ∧ (¬ v10 = (3 : Int32) → zGo (d + 1) m_X9_judge 61 [.ref 1031, .int a1, .int v6] [] (yz w9) (zKi F)))))))))))) ∧ (¬ a1 < (yI w 1031 3) → (((yI w 1031 3) = 0 → zGo d m_X9_at 0 [.ref 1031, .int (6 : Int32), .int (0 : Int32)] [] (yz w) (zKi fun v12 w11 => F v12 w11)) ∧ (¬ (yI w 1031 3) = 0 → zGo d m_X9_findHeights 0 [.ref 1031, zJ, zJ, zJ, zJ, zJ, zJ] [] (yz w) (zKi fun v14 w13 => F v14 w13)))))) :
    zGo (d + 1) m_X9_judge 2 [.ref 1031, .int a1, ua2] [] (yz w) (zKi F) := by
  refine g_s (pc' := 3) rfl ?_
  refine g_s (pc' := 4) rfl ?_
  refine g_getf (pc' := 7) (v := .int (yI w 1031 3)) rfl rfl rfl rfl rfl ?_
  refine g_icge (pc' := 10) rfl rfl (fun hc => ?_) (fun hc => ?_)
  · replace H := H.1 hc
    refine g_s (pc' := 11) rfl ?_
    refine g_s (pc' := 12) rfl ?_
    refine g_calli (a := m_X9_op) (as := [.ref 1031, .int a1]) (rest := []) (ls0 := [.ref 1031, .int a1]) (pc' := 15) (t_virt rfl rfl rfl rfl rfl rfl) rfl rfl rfl ?_
    refine zGo.mono H (zKi_mono ?_)
    intro v2 w1 H
    refine g_psh (pc' := 17) (v' := .int 26) rfl (congrArg Value.int kc_b26) ?_
    refine g_icle (pc' := 20) rfl rfl (fun hc => ?_) (fun hc => ?_)
    · replace H := H.1 hc
      refine g_s (pc' := 21) rfl ?_
      refine g_psh (pc' := 22) (v' := .int 1) rfl (congrArg Value.int kc_i1) ?_
      refine g_s (pc' := 23) rfl ?_
      refine g_calli (a := m_X9_at) (as := [.ref 1031, .int (1 : Int32), .int a1]) (rest := []) (ls0 := [.ref 1031, .int (1 : Int32), .int a1]) (pc' := 26) (t_virt rfl rfl rfl rfl rfl rfl) rfl rfl rfl ?_
      refine zGo.mono H (zKi_mono ?_)
      intro v4 w3 H
      exact g_reti rfl rfl H
    · replace H := H.2 hc
      refine g_s (pc' := 28) rfl ?_
      refine g_s (pc' := 29) rfl ?_
      refine g_calli (a := m_X9_argument) (as := [.ref 1031, .int a1]) (rest := []) (ls0 := [.ref 1031, .int a1]) (pc' := 32) (t_virt rfl rfl rfl rfl rfl rfl) rfl rfl rfl ?_
      refine zGo.mono H (zKi_mono ?_)
      intro v6 w5 H
      refine g_ist (k := 2) (pc' := 33) (ls' := [.ref 1031, .int a1, .int v6]) rfl rfl rfl rfl (zst1_of rfl (Or.inr rfl) rfl) ?_
      refine g_s (pc' := 34) rfl ?_
      refine g_s (pc' := 35) rfl ?_
      refine g_calli (a := m_X9_op) (as := [.ref 1031, .int a1]) (rest := []) (ls0 := [.ref 1031, .int a1]) (pc' := 38) (t_virt rfl rfl rfl rfl rfl rfl) rfl rfl rfl ?_
      refine zGo.mono H (zKi_mono ?_)
      intro v8 w7 H
      refine g_psh (pc' := 39) (v' := .int 2) rfl (congrArg Value.int kc_i2) ?_
      refine g_iceq (pc' := 42) rfl rfl (fun hc => ?_) (fun hc => ?_)
      · replace H := H.1 hc
        exact H
      · replace H := H.2 hc
        refine g_s (pc' := 43) rfl ?_
        refine g_s (pc' := 44) rfl ?_
        refine g_calli (a := m_X9_op) (as := [.ref 1031, .int a1]) (rest := []) (ls0 := [.ref 1031, .int a1]) (pc' := 47) (t_virt rfl rfl rfl rfl rfl rfl) rfl rfl rfl ?_
        refine zGo.mono H (zKi_mono ?_)
        intro v10 w9 H
        refine g_psh (pc' := 48) (v' := .int 3) rfl (congrArg Value.int kc_i3) ?_
        refine g_icne (pc' := 51) rfl rfl (fun hc => ?_) (fun hc => ?_)
        · replace H := H.1 hc
          exact H
        · replace H := H.2 hc
          exact H
  · replace H := H.2 hc
    refine g_s (pc' := 100) rfl ?_
    refine g_getf (pc' := 103) (v := .int (yI w 1031 3)) rfl rfl rfl rfl rfl ?_
    refine g_ifne (pc' := 106) rfl rfl (fun hc => ?_) (fun hc => ?_)
    · replace H := H.1 hc
      refine g_s (pc' := 107) rfl ?_
      refine g_psh (pc' := 109) (v' := .int 6) rfl (congrArg Value.int kc_b6) ?_
      refine g_psh (pc' := 110) (v' := .int 0) rfl (congrArg Value.int kc_i0) ?_
      refine g_calli (a := m_X9_at) (as := [.ref 1031, .int (6 : Int32), .int (0 : Int32)]) (rest := []) (ls0 := [.ref 1031, .int (6 : Int32), .int (0 : Int32)]) (pc' := 113) (t_virt rfl rfl rfl rfl rfl rfl) rfl rfl rfl ?_
      refine zGo.mono H (zKi_mono ?_)
      intro v12 w11 H
      refine g_s (pc' := 120) rfl ?_
      exact g_reti rfl rfl H
    · replace H := H.2 hc
      refine g_s (pc' := 117) rfl ?_
      refine g_calli (a := m_X9_findHeights) (as := [.ref 1031]) (rest := []) (ls0 := [.ref 1031, zJ, zJ, zJ, zJ, zJ, zJ]) (pc' := 120) (t_virt rfl rfl rfl rfl rfl rfl) rfl rfl rfl ?_
      refine zGo.mono H (zKi_mono ?_)
      intro v14 w13 H
      exact g_reti rfl rfl H
set_option maxHeartbeats 4000000 in
theorem B_X9_judge_51 {d : Nat} {w : zm} {F : Int32 → zm → Prop} (a1 : Int32) (a2 : Int32)
    (H : zGo d m_X9_in 0 [.int a2, .int (0 : Int32), .int (15 : Int32)] [] (yz w) (zKi fun v2 w1 => ((v2 = 0 → zGo d m_X9_at 0 [.ref 1031, .int (2 : Int32), .int a1] [] (yz w1) (zKi fun v4 w3 => F v4 w3)) ∧ (¬ v2 = 0 → zGo (d + 1) m_X9_judge 61 [.ref 1031, .int a1, .int a2] [] (yz w1) (zKi F))))) :
    zGo (d + 1) m_X9_judge 51 [.ref 1031, .int a1, .int a2] [] (yz w) (zKi F) := by
  refine g_s (pc' := 52) rfl ?_
  refine g_psh (pc' := 53) (v' := .int 0) rfl (congrArg Value.int kc_i0) ?_
  refine g_psh (pc' := 55) (v' := .int 15) rfl (congrArg Value.int kc_b15) ?_
  refine g_calli (a := m_X9_in) (as := [.int a2, .int (0 : Int32), .int (15 : Int32)]) (rest := []) (ls0 := [.int a2, .int (0 : Int32), .int (15 : Int32)]) (pc' := 58) (t_stat rfl (Or.inl rfl) rfl rfl rfl rfl) rfl rfl rfl ?_
  refine zGo.mono H (zKi_mono ?_)
  intro v2 w1 H
  refine g_ifeq (pc' := 61) rfl rfl (fun hc => ?_) (fun hc => ?_)
  · replace H := H.1 hc
    refine g_s (pc' := 87) rfl ?_
    refine g_psh (pc' := 88) (v' := .int 2) rfl (congrArg Value.int kc_i2) ?_
    refine g_s (pc' := 89) rfl ?_
    refine g_calli (a := m_X9_at) (as := [.ref 1031, .int (2 : Int32), .int a1]) (rest := []) (ls0 := [.ref 1031, .int (2 : Int32), .int a1]) (pc' := 92) (t_virt rfl rfl rfl rfl rfl rfl) rfl rfl rfl ?_
    refine zGo.mono H (zKi_mono ?_)
    intro v4 w3 H
    exact g_reti rfl rfl H
  · replace H := H.2 hc
    exact H
set_option maxHeartbeats 4000000 in
theorem B_X9_judge_61 {d : Nat} {w : zm} {F : Int32 → zm → Prop} (a1 : Int32) (a2 : Int32)
    (H : zGo d m_X9_op 0 [.ref 1031, .int a1] [] (yz w) (zKi fun v2 w1 => zGo d m_X9_jumps 0 [.int v2] [] (yz w1) (zKi fun v4 w3 => ((v4 = 0 → zGo (d + 1) m_X9_judge 2 [.ref 1031, .int (a1 + 1), .int a2] [] (yz w3) (zKi F)) ∧ (¬ v4 = 0 → zGo d m_X9_in 0 [.int a2, .int (0 : Int32), .int ((yI w3 1031 3) - (1 : Int32))] [] (yz w3) (zKi fun v6 w5 => ((v6 = 0 → zGo d m_X9_at 0 [.ref 1031, .int (2 : Int32), .int a1] [] (yz w5) (zKi fun v8 w7 => F v8 w7)) ∧ (¬ v6 = 0 → zGo (d + 1) m_X9_judge 2 [.ref 1031, .int (a1 + 1), .int a2] [] (yz w5) (zKi F))))))))) :
    zGo (d + 1) m_X9_judge 61 [.ref 1031, .int a1, .int a2] [] (yz w) (zKi F) := by
  refine g_s (pc' := 62) rfl ?_
  refine g_s (pc' := 63) rfl ?_
  refine g_calli (a := m_X9_op) (as := [.ref 1031, .int a1]) (rest := []) (ls0 := [.ref 1031, .int a1]) (pc' := 66) (t_virt rfl rfl rfl rfl rfl rfl) rfl rfl rfl ?_
  refine zGo.mono H (zKi_mono ?_)
  intro v2 w1 H
  refine g_calli (a := m_X9_jumps) (as := [.int v2]) (rest := []) (ls0 := [.int v2]) (pc' := 69) (t_stat rfl (Or.inl rfl) rfl rfl rfl rfl) rfl rfl rfl ?_
  refine zGo.mono H (zKi_mono ?_)
  intro v4 w3 H
  refine g_ifeq (pc' := 72) rfl rfl (fun hc => ?_) (fun hc => ?_)
  · replace H := H.1 hc
    refine g_inc (pc' := 96) (ls' := [.ref 1031, .int (a1 + 1), .int a2]) rfl rfl rfl kc_i1 (zst1_of rfl (Or.inr rfl) rfl) ?_
    refine g_s (pc' := 2) rfl ?_
    exact H
  · replace H := H.2 hc
    refine g_s (pc' := 73) rfl ?_
    refine g_psh (pc' := 74) (v' := .int 0) rfl (congrArg Value.int kc_i0) ?_
    refine g_s (pc' := 75) rfl ?_
    refine g_getf (pc' := 78) (v := .int (yI w3 1031 3)) rfl rfl rfl rfl rfl ?_
    refine g_psh (pc' := 79) (v' := .int 1) rfl (congrArg Value.int kc_i1) ?_
    refine g_s (pc' := 80) (st' := [.int ((yI w3 1031 3) - (1 : Int32)), .int (0 : Int32), .int a2]) rfl ?_
    refine g_calli (a := m_X9_in) (as := [.int a2, .int (0 : Int32), .int ((yI w3 1031 3) - (1 : Int32))]) (rest := []) (ls0 := [.int a2, .int (0 : Int32), .int ((yI w3 1031 3) - (1 : Int32))]) (pc' := 83) (t_stat rfl (Or.inl rfl) rfl rfl rfl rfl) rfl rfl rfl ?_
    refine zGo.mono H (zKi_mono ?_)
    intro v6 w5 H
    refine g_ifne (pc' := 86) rfl rfl (fun hc => ?_) (fun hc => ?_)
    · replace H := H.1 hc
      refine g_s (pc' := 87) rfl ?_
      refine g_psh (pc' := 88) (v' := .int 2) rfl (congrArg Value.int kc_i2) ?_
      refine g_s (pc' := 89) rfl ?_
      refine g_calli (a := m_X9_at) (as := [.ref 1031, .int (2 : Int32), .int a1]) (rest := []) (ls0 := [.ref 1031, .int (2 : Int32), .int a1]) (pc' := 92) (t_virt rfl rfl rfl rfl rfl rfl) rfl rfl rfl ?_
      refine zGo.mono H (zKi_mono ?_)
      intro v8 w7 H
      exact g_reti rfl rfl H
    · replace H := H.2 hc
      refine g_inc (pc' := 96) (ls' := [.ref 1031, .int (a1 + 1), .int a2]) rfl rfl rfl kc_i1 (zst1_of rfl (Or.inr rfl) rfl) ?_
      refine g_s (pc' := 2) rfl ?_
      exact H
set_option maxHeartbeats 4000000 in
theorem B_X9_jumps_0 {d : Nat} {w : zm} {F : Int32 → zm → Prop} (a0 : Int32)
    (H : ((a0 = (21 : Int32) → F (1 : Int32) w) ∧ (¬ a0 = (21 : Int32) → ((a0 = (22 : Int32) → F (1 : Int32) w) ∧ (¬ a0 = (22 : Int32) → ((a0 = (23 : Int32) → F (1 : Int32) w) ∧ (¬ a0 = (23 : Int32) → F (0 : Int32) w))))))) :
    zGo d m_X9_jumps 0 [.int a0] [] (yz w) (zKi F) := by
  refine g_s (pc' := 1) rfl ?_
  refine g_psh (pc' := 3) (v' := .int 21) rfl (congrArg Value.int kc_b21) ?_
  refine g_iceq (pc' := 6) rfl rfl (fun hc => ?_) (fun hc => ?_)
  · replace H := H.1 hc
    refine g_psh (pc' := 19) (v' := .int 1) rfl (congrArg Value.int kc_i1) ?_
    refine g_s (pc' := 23) rfl ?_
    exact g_reti rfl (zbool _ (Or.inr rfl)) H
  · replace H := H.2 hc
    refine g_s (pc' := 7) rfl ?_
    refine g_psh (pc' := 9) (v' := .int 22) rfl (congrArg Value.int kc_b22) ?_
    refine g_iceq (pc' := 12) rfl rfl (fun hc => ?_) (fun hc => ?_)
    · replace H := H.1 hc
      refine g_psh (pc' := 19) (v' := .int 1) rfl (congrArg Value.int kc_i1) ?_
      refine g_s (pc' := 23) rfl ?_
      exact g_reti rfl (zbool _ (Or.inr rfl)) H
    · replace H := H.2 hc
      refine g_s (pc' := 13) rfl ?_
      refine g_psh (pc' := 15) (v' := .int 23) rfl (congrArg Value.int kc_b23) ?_
      refine g_icne (pc' := 18) rfl rfl (fun hc => ?_) (fun hc => ?_)
      · replace H := H.1 hc
        refine g_psh (pc' := 19) (v' := .int 1) rfl (congrArg Value.int kc_i1) ?_
        refine g_s (pc' := 23) rfl ?_
        exact g_reti rfl (zbool _ (Or.inr rfl)) H
      · replace H := H.2 hc
        refine g_psh (pc' := 23) (v' := .int 0) rfl (congrArg Value.int kc_i0) ?_
        exact g_reti rfl (zbool _ (Or.inl rfl)) H
set_option maxHeartbeats 4000000 in
theorem B_X9_local_0 {d : Nat} {w : zm} {F : Int32 → zm → Prop} (a1 : Int32)
    (H : zGo d m_X9_in 0 [.int a1, .int (0 : Int32), .int (15 : Int32)] [] (yz w) (zKi fun v2 w1 => ((v2 = 0 → zGo (d + 1) m_X9_local 16 [.ref 1031, .int a1] [.int (1 : Int32), .ref 1031] (yz w1) (zKi F)) ∧ (¬ v2 = 0 → zGo (d + 1) m_X9_local 16 [.ref 1031, .int a1] [.int (0 : Int32), .ref 1031] (yz w1) (zKi F))))) :
    zGo (d + 1) m_X9_local 0 [.ref 1031, .int a1] [] (yz w) (zKi F) := by
  refine g_s (pc' := 1) rfl ?_
  refine g_s (pc' := 2) rfl ?_
  refine g_psh (pc' := 3) (v' := .int 0) rfl (congrArg Value.int kc_i0) ?_
  refine g_psh (pc' := 5) (v' := .int 15) rfl (congrArg Value.int kc_b15) ?_
  refine g_calli (a := m_X9_in) (as := [.int a1, .int (0 : Int32), .int (15 : Int32)]) (rest := [.ref 1031]) (ls0 := [.int a1, .int (0 : Int32), .int (15 : Int32)]) (pc' := 8) (t_stat rfl (Or.inl rfl) rfl rfl rfl rfl) rfl rfl rfl ?_
  refine zGo.mono H (zKi_mono ?_)
  intro v2 w1 H
  refine g_ifeq (pc' := 11) rfl rfl (fun hc => ?_) (fun hc => ?_)
  · replace H := H.1 hc
    refine g_psh (pc' := 16) (v' := .int 1) rfl (congrArg Value.int kc_i1) ?_
    exact H
  · replace H := H.2 hc
    refine g_psh (pc' := 12) (v' := .int 0) rfl (congrArg Value.int kc_i0) ?_
    refine g_s (pc' := 16) rfl ?_
    exact H
set_option maxHeartbeats 4000000 in
theorem B_X9_local_16 {d : Nat} {w : zm} {F : Int32 → zm → Prop} (a1 : Int32) (s0 : Int32)
    (H : ((0 < s0 → F (0 : Int32) (yuI w 1031 1 s0)) ∧ (¬ 0 < s0 → (zin a1 16) ∧ F (yA w 1033 (Int32.toNatClampNeg a1)) (yuI w 1031 1 s0)))) :
    zGo (d + 1) m_X9_local 16 [.ref 1031, .int a1] [.int s0, .ref 1031] (yz w) (zKi F) := by
  refine g_putI (pc' := 19) rfl rfl rfl rfl rfl rfl (fun _ => rfl) ?_
  refine g_s (pc' := 20) rfl ?_
  refine g_getf (pc' := 23) (v := .int s0) rfl rfl rfl rfl rfl ?_
  refine g_ifle (pc' := 26) rfl rfl (fun hc => ?_) (fun hc => ?_)
  · replace H := H.1 hc
    refine g_psh (pc' := 27) (v' := .int 0) rfl (congrArg Value.int kc_i0) ?_
    refine g_s (pc' := 36) rfl ?_
    exact g_reti rfl rfl H
  · replace H := H.2 hc
    refine g_s (pc' := 31) rfl ?_
    refine g_getf (pc' := 34) (v := .ref 1033) rfl rfl rfl rfl rfl ?_
    refine g_s (pc' := 35) rfl ?_
    obtain ⟨hi1, H⟩ := H
    refine g_iald (pc' := 36) rfl rfl rfl rfl rfl (Or.inl rfl) hi1 ?_
    exact g_reti rfl rfl H
set_option maxHeartbeats 4000000 in
theorem B_X9_memory_0 {d : Nat} {w : zm} {F : Int32 → zm → Prop} (a1 : Int32)
    (H : zGo d m_X9_in 0 [.int a1, .int (0 : Int32), .int (31 : Int32)] [] (yz w) (zKi fun v2 w1 => ((v2 = 0 → zGo (d + 1) m_X9_memory 16 [.ref 1031, .int a1] [.int (1 : Int32), .ref 1031] (yz w1) (zKi F)) ∧ (¬ v2 = 0 → zGo (d + 1) m_X9_memory 16 [.ref 1031, .int a1] [.int (0 : Int32), .ref 1031] (yz w1) (zKi F))))) :
    zGo (d + 1) m_X9_memory 0 [.ref 1031, .int a1] [] (yz w) (zKi F) := by
  refine g_s (pc' := 1) rfl ?_
  refine g_s (pc' := 2) rfl ?_
  refine g_psh (pc' := 3) (v' := .int 0) rfl (congrArg Value.int kc_i0) ?_
  refine g_psh (pc' := 5) (v' := .int 31) rfl (congrArg Value.int kc_b31) ?_
  refine g_calli (a := m_X9_in) (as := [.int a1, .int (0 : Int32), .int (31 : Int32)]) (rest := [.ref 1031]) (ls0 := [.int a1, .int (0 : Int32), .int (31 : Int32)]) (pc' := 8) (t_stat rfl (Or.inl rfl) rfl rfl rfl rfl) rfl rfl rfl ?_
  refine zGo.mono H (zKi_mono ?_)
  intro v2 w1 H
  refine g_ifeq (pc' := 11) rfl rfl (fun hc => ?_) (fun hc => ?_)
  · replace H := H.1 hc
    refine g_psh (pc' := 16) (v' := .int 1) rfl (congrArg Value.int kc_i1) ?_
    exact H
  · replace H := H.2 hc
    refine g_psh (pc' := 12) (v' := .int 0) rfl (congrArg Value.int kc_i0) ?_
    refine g_s (pc' := 16) rfl ?_
    exact H
set_option maxHeartbeats 4000000 in
theorem B_X9_memory_16 {d : Nat} {w : zm} {F : Int32 → zm → Prop} (a1 : Int32) (s0 : Int32)
    (H : ((0 < s0 → F (0 : Int32) (yuI w 1031 1 s0)) ∧ (¬ 0 < s0 → (zin a1 32) ∧ F (yA w 1035 (Int32.toNatClampNeg a1)) (yuI w 1031 1 s0)))) :
    zGo (d + 1) m_X9_memory 16 [.ref 1031, .int a1] [.int s0, .ref 1031] (yz w) (zKi F) := by
  refine g_putI (pc' := 19) rfl rfl rfl rfl rfl rfl (fun _ => rfl) ?_
  refine g_s (pc' := 20) rfl ?_
  refine g_getf (pc' := 23) (v := .int s0) rfl rfl rfl rfl rfl ?_
  refine g_ifle (pc' := 26) rfl rfl (fun hc => ?_) (fun hc => ?_)
  · replace H := H.1 hc
    refine g_psh (pc' := 27) (v' := .int 0) rfl (congrArg Value.int kc_i0) ?_
    refine g_s (pc' := 36) rfl ?_
    exact g_reti rfl rfl H
  · replace H := H.2 hc
    refine g_s (pc' := 31) rfl ?_
    refine g_getf (pc' := 34) (v := .ref 1035) rfl rfl rfl rfl rfl ?_
    refine g_s (pc' := 35) rfl ?_
    obtain ⟨hi1, H⟩ := H
    refine g_iald (pc' := 36) rfl rfl rfl rfl rfl (Or.inl rfl) hi1 ?_
    exact g_reti rfl rfl H
set_option maxHeartbeats 4000000 in
theorem B_X9_move_0 {d : Nat} {w : zm} {F : zm → Prop} (a1 : Int32) (a2 : Int32)
    (H : (((a1.toInt < 1 ∨ 26 < a1.toInt ∨ a1.toInt = 4 ∨ a1.toInt = 5 ∨ a1.toInt = 6 ∨ a1.toInt = 7 ∨ a1.toInt = 8 ∨ a1.toInt = 9 ∨ a1.toInt = 10 ∨ a1.toInt = 11 ∨ a1.toInt = 12 ∨ a1.toInt = 13 ∨ a1.toInt = 14 ∨ a1.toInt = 15 ∨ a1.toInt = 16 ∨ a1.toInt = 17 ∨ a1.toInt = 21) → F w) ∧ ((a1.toInt = 1) → (zin (yI w 1031 9) 20) ∧ F (yuA (yuI w 1031 9 ((yI w 1031 9) + (1 : Int32))) 1034 (Int32.toNatClampNeg (yI w 1031 9)) a2)) ∧ ((a1.toInt = 2) → (zin a2 16) ∧ (zin (yI w 1031 9) 20) ∧ F (yuA (yuI w 1031 9 ((yI w 1031 9) + (1 : Int32))) 1034 (Int32.toNatClampNeg (yI w 1031 9)) (yA w 1033 (Int32.toNatClampNeg a2)))) ∧ ((a1.toInt = 3) → (zin ((yI w 1031 9) - (1 : Int32)) 20) ∧ (zin a2 16) ∧ F (yuA (yuI w 1031 9 ((yI w 1031 9) - (1 : Int32))) 1033 (Int32.toNatClampNeg a2) (yA w 1034 (Int32.toNatClampNeg ((yI w 1031 9) - (1 : Int32)))))) ∧ ((a1.toInt = 18) → (zin ((yI w 1031 9) - (1 : Int32)) 20) ∧ (zin (yI w 1031 9) 20) ∧ F (yuI (yuA w 1034 (Int32.toNatClampNeg (yI w 1031 9)) (yA w 1034 (Int32.toNatClampNeg ((yI w 1031 9) - (1 : Int32))))) 1031 9 ((yI w 1031 9) + (1 : Int32)))) ∧ ((a1.toInt = 19) → (zin ((yI w 1031 9) - (1 : Int32)) 20) ∧ (zin ((yI w 1031 9) - (2 : Int32)) 20) ∧ (zin ((yI w 1031 9) - (1 : Int32)) 20) ∧ (zin ((yI w 1031 9) - (2 : Int32)) 20) ∧ F (yuA (yuA w 1034 (Int32.toNatClampNeg ((yI w 1031 9) - (1 : Int32))) (yA w 1034 (Int32.toNatClampNeg ((yI w 1031 9) - (2 : Int32))))) 1034 (Int32.toNatClampNeg ((yI w 1031 9) - (2 : Int32))) (yA w 1034 (Int32.toNatClampNeg ((yI w 1031 9) - (1 : Int32)))))) ∧ ((a1.toInt = 20 ∨ a1.toInt = 22 ∨ a1.toInt = 23) → F (yuI w 1031 9 ((yI w 1031 9) - (1 : Int32)))) ∧ ((a1.toInt = 24) → (zin ((yI w 1031 9) - (1 : Int32)) 20) ∧ (zin ((yI w 1031 12) - (yI w 1031 12) / (200 : Int32) * (200 : Int32)) 200) ∧ F (yuI (yuA (yuI w 1031 9 ((yI w 1031 9) - (1 : Int32))) 1036 (Int32.toNatClampNeg ((yI w 1031 12) - (yI w 1031 12) / (200 : Int32) * (200 : Int32))) (yA w 1034 (Int32.toNatClampNeg ((yI w 1031 9) - (1 : Int32))))) 1031 12 ((yI w 1031 12) + (1 : Int32)))) ∧ ((a1.toInt = 25) → (zin ((yI w 1031 9) - (1 : Int32)) 20) ∧ (zin ((yA w 1034 (Int32.toNatClampNeg ((yI w 1031 9) - (1 : Int32)))) &&& (31 : Int32)) 32) ∧ (zin ((yI w 1031 9) - (1 : Int32)) 20) ∧ F (yuA w 1034 (Int32.toNatClampNeg ((yI w 1031 9) - (1 : Int32))) (yA w 1035 (Int32.toNatClampNeg ((yA w 1034 (Int32.toNatClampNeg ((yI w 1031 9) - (1 : Int32)))) &&& (31 : Int32)))))) ∧ ((a1.toInt = 26) → (zin ((yI w 1031 9) - (2 : Int32)) 20) ∧ (zin (((yI w 1031 9) - (2 : Int32)) + (1 : Int32)) 20) ∧ (zin ((yA w 1034 (Int32.toNatClampNeg ((yI w 1031 9) - (2 : Int32)))) &&& (31 : Int32)) 32) ∧ F (yuA (yuI w 1031 9 ((yI w 1031 9) - (2 : Int32))) 1035 (Int32.toNatClampNeg ((yA w 1034 (Int32.toNatClampNeg ((yI w 1031 9) - (2 : Int32)))) &&& (31 : Int32))) (yA w 1034 (Int32.toNatClampNeg (((yI w 1031 9) - (2 : Int32)) + (1 : Int32)))))))) :
    zGo d m_X9_move 0 [.ref 1031, .int a1, .int a2, zJ] [] (yz w) (zKv F) := by
  refine g_s (pc' := 1) rfl ?_
  refine g_tsw rfl (fun hx => ?_) (fun j hx hy => ?_)
  · replace H := H.1 (by omega)
    show zGo d m_X9_move 401 [.ref 1031, .int a1, .int a2, zJ] [] (yz w) (zKv F)
    exact g_retv rfl rfl H
  · have hj : j < 26 := by omega
    match j, hj, hx with
    | 0, _, hx =>
      refine ⟨119, rfl, ?_⟩
      replace H := H.2.1 (by omega)
      show zGo d m_X9_move 120 [.ref 1031, .int a1, .int a2, zJ] [] (yz w) (zKv F)
      refine g_s (pc' := 121) rfl ?_
      refine g_getf (pc' := 124) (v := .ref 1034) rfl rfl rfl rfl rfl ?_
      refine g_s (pc' := 125) rfl ?_
      refine g_s (pc' := 126) rfl ?_
      refine g_getf (pc' := 129) (v := .int (yI w 1031 9)) rfl rfl rfl rfl rfl ?_
      refine g_s (pc' := 130) rfl ?_
      refine g_psh (pc' := 131) (v' := .int 1) rfl (congrArg Value.int kc_i1) ?_
      refine g_s (pc' := 132) (st' := [.int ((yI w 1031 9) + (1 : Int32)), .ref 1031, .int (yI w 1031 9), .ref 1034]) rfl ?_
      refine g_putI (pc' := 135) rfl rfl rfl rfl rfl rfl (fun _ => rfl) ?_
      refine g_s (pc' := 136) rfl ?_
      obtain ⟨hi1, H⟩ := H
      refine g_iast (pc' := 137) rfl rfl rfl rfl rfl rfl hi1 ?_
      refine g_s (pc' := 401) rfl ?_
      exact g_retv rfl rfl H
    | 1, _, hx =>
      refine ⟨139, rfl, ?_⟩
      replace H := H.2.2.1 (by omega)
      show zGo d m_X9_move 140 [.ref 1031, .int a1, .int a2, zJ] [] (yz w) (zKv F)
      refine g_s (pc' := 141) rfl ?_
      refine g_getf (pc' := 144) (v := .ref 1034) rfl rfl rfl rfl rfl ?_
      refine g_s (pc' := 145) rfl ?_
      refine g_s (pc' := 146) rfl ?_
      refine g_getf (pc' := 149) (v := .int (yI w 1031 9)) rfl rfl rfl rfl rfl ?_
      refine g_s (pc' := 150) rfl ?_
      refine g_psh (pc' := 151) (v' := .int 1) rfl (congrArg Value.int kc_i1) ?_
      refine g_s (pc' := 152) (st' := [.int ((yI w 1031 9) + (1 : Int32)), .ref 1031, .int (yI w 1031 9), .ref 1034]) rfl ?_
      refine g_putI (pc' := 155) rfl rfl rfl rfl rfl rfl (fun _ => rfl) ?_
      refine g_s (pc' := 156) rfl ?_
      refine g_getf (pc' := 159) (v := .ref 1033) rfl rfl rfl rfl rfl ?_
      refine g_s (pc' := 160) rfl ?_
      obtain ⟨hi2, H⟩ := H
      refine g_iald (pc' := 161) rfl rfl rfl rfl rfl (Or.inl rfl) hi2 ?_
      obtain ⟨hi3, H⟩ := H
      refine g_iast (pc' := 162) rfl rfl rfl rfl rfl rfl hi3 ?_
      refine g_s (pc' := 401) rfl ?_
      exact g_retv rfl rfl H
    | 2, _, hx =>
      refine ⟨164, rfl, ?_⟩
      replace H := H.2.2.2.1 (by omega)
      show zGo d m_X9_move 165 [.ref 1031, .int a1, .int a2, zJ] [] (yz w) (zKv F)
      refine g_s (pc' := 166) rfl ?_
      refine g_getf (pc' := 169) (v := .ref 1033) rfl rfl rfl rfl rfl ?_
      refine g_s (pc' := 170) rfl ?_
      refine g_s (pc' := 171) rfl ?_
      refine g_getf (pc' := 174) (v := .ref 1034) rfl rfl rfl rfl rfl ?_
      refine g_s (pc' := 175) rfl ?_
      refine g_s (pc' := 176) rfl ?_
      refine g_getf (pc' := 179) (v := .int (yI w 1031 9)) rfl rfl rfl rfl rfl ?_
      refine g_psh (pc' := 180) (v' := .int 1) rfl (congrArg Value.int kc_i1) ?_
      refine g_s (pc' := 181) (st' := [.int ((yI w 1031 9) - (1 : Int32)), .ref 1031, .ref 1034, .int a2, .ref 1033]) rfl ?_
      refine g_s (pc' := 182) rfl ?_
      refine g_putI (pc' := 185) rfl rfl rfl rfl rfl rfl (fun _ => rfl) ?_
      obtain ⟨hi4, H⟩ := H
      refine g_iald (pc' := 186) rfl rfl rfl rfl rfl (Or.inl rfl) hi4 ?_
      obtain ⟨hi5, H⟩ := H
      refine g_iast (pc' := 187) rfl rfl rfl rfl rfl rfl hi5 ?_
      refine g_s (pc' := 401) rfl ?_
      exact g_retv rfl rfl H
    | 3, _, hx =>
      refine ⟨400, rfl, ?_⟩
      replace H := H.1 (by omega)
      show zGo d m_X9_move 401 [.ref 1031, .int a1, .int a2, zJ] [] (yz w) (zKv F)
      exact g_retv rfl rfl H
    | 4, _, hx =>
      refine ⟨400, rfl, ?_⟩
      replace H := H.1 (by omega)
      show zGo d m_X9_move 401 [.ref 1031, .int a1, .int a2, zJ] [] (yz w) (zKv F)
      exact g_retv rfl rfl H
    | 5, _, hx =>
      refine ⟨400, rfl, ?_⟩
      replace H := H.1 (by omega)
      show zGo d m_X9_move 401 [.ref 1031, .int a1, .int a2, zJ] [] (yz w) (zKv F)
      exact g_retv rfl rfl H
    | 6, _, hx =>
      refine ⟨400, rfl, ?_⟩
      replace H := H.1 (by omega)
      show zGo d m_X9_move 401 [.ref 1031, .int a1, .int a2, zJ] [] (yz w) (zKv F)
      exact g_retv rfl rfl H
    | 7, _, hx =>
      refine ⟨400, rfl, ?_⟩
      replace H := H.1 (by omega)
      show zGo d m_X9_move 401 [.ref 1031, .int a1, .int a2, zJ] [] (yz w) (zKv F)
      exact g_retv rfl rfl H
    | 8, _, hx =>
      refine ⟨400, rfl, ?_⟩
      replace H := H.1 (by omega)
      show zGo d m_X9_move 401 [.ref 1031, .int a1, .int a2, zJ] [] (yz w) (zKv F)
      exact g_retv rfl rfl H
    | 9, _, hx =>
      refine ⟨400, rfl, ?_⟩
      replace H := H.1 (by omega)
      show zGo d m_X9_move 401 [.ref 1031, .int a1, .int a2, zJ] [] (yz w) (zKv F)
      exact g_retv rfl rfl H
    | 10, _, hx =>
      refine ⟨400, rfl, ?_⟩
      replace H := H.1 (by omega)
      show zGo d m_X9_move 401 [.ref 1031, .int a1, .int a2, zJ] [] (yz w) (zKv F)
      exact g_retv rfl rfl H
    | 11, _, hx =>
      refine ⟨400, rfl, ?_⟩
      replace H := H.1 (by omega)
      show zGo d m_X9_move 401 [.ref 1031, .int a1, .int a2, zJ] [] (yz w) (zKv F)
      exact g_retv rfl rfl H
    | 12, _, hx =>
      refine ⟨400, rfl, ?_⟩
      replace H := H.1 (by omega)
      show zGo d m_X9_move 401 [.ref 1031, .int a1, .int a2, zJ] [] (yz w) (zKv F)
      exact g_retv rfl rfl H
    | 13, _, hx =>
      refine ⟨400, rfl, ?_⟩
      replace H := H.1 (by omega)
      show zGo d m_X9_move 401 [.ref 1031, .int a1, .int a2, zJ] [] (yz w) (zKv F)
      exact g_retv rfl rfl H
    | 14, _, hx =>
      refine ⟨400, rfl, ?_⟩
      replace H := H.1 (by omega)
      show zGo d m_X9_move 401 [.ref 1031, .int a1, .int a2, zJ] [] (yz w) (zKv F)
      exact g_retv rfl rfl H
    | 15, _, hx =>
      refine ⟨400, rfl, ?_⟩
      replace H := H.1 (by omega)
      show zGo d m_X9_move 401 [.ref 1031, .int a1, .int a2, zJ] [] (yz w) (zKv F)
      exact g_retv rfl rfl H
    | 16, _, hx =>
      refine ⟨400, rfl, ?_⟩
      replace H := H.1 (by omega)
      show zGo d m_X9_move 401 [.ref 1031, .int a1, .int a2, zJ] [] (yz w) (zKv F)
      exact g_retv rfl rfl H
    | 17, _, hx =>
      refine ⟨189, rfl, ?_⟩
      replace H := H.2.2.2.2.1 (by omega)
      show zGo d m_X9_move 190 [.ref 1031, .int a1, .int a2, zJ] [] (yz w) (zKv F)
      refine g_s (pc' := 191) rfl ?_
      refine g_getf (pc' := 194) (v := .ref 1034) rfl rfl rfl rfl rfl ?_
      refine g_s (pc' := 195) rfl ?_
      refine g_getf (pc' := 198) (v := .int (yI w 1031 9)) rfl rfl rfl rfl rfl ?_
      refine g_s (pc' := 199) rfl ?_
      refine g_getf (pc' := 202) (v := .ref 1034) rfl rfl rfl rfl rfl ?_
      refine g_s (pc' := 203) rfl ?_
      refine g_getf (pc' := 206) (v := .int (yI w 1031 9)) rfl rfl rfl rfl rfl ?_
      refine g_psh (pc' := 207) (v' := .int 1) rfl (congrArg Value.int kc_i1) ?_
      refine g_s (pc' := 208) (st' := [.int ((yI w 1031 9) - (1 : Int32)), .ref 1034, .int (yI w 1031 9), .ref 1034]) rfl ?_
      obtain ⟨hi6, H⟩ := H
      refine g_iald (pc' := 209) rfl rfl rfl rfl rfl (Or.inl rfl) hi6 ?_
      obtain ⟨hi7, H⟩ := H
      refine g_iast (pc' := 210) rfl rfl rfl rfl rfl rfl hi7 ?_
      refine g_s (pc' := 211) rfl ?_
      refine g_s (pc' := 212) rfl ?_
      refine g_getf (pc' := 215) (v := .int (yI w 1031 9)) rfl rfl rfl rfl rfl ?_
      refine g_psh (pc' := 216) (v' := .int 1) rfl (congrArg Value.int kc_i1) ?_
      refine g_s (pc' := 217) (st' := [.int ((yI w 1031 9) + (1 : Int32)), .ref 1031]) rfl ?_
      refine g_putI (pc' := 220) rfl rfl rfl rfl rfl rfl (fun _ => rfl) ?_
      refine g_s (pc' := 401) rfl ?_
      exact g_retv rfl rfl H
    | 18, _, hx =>
      refine ⟨222, rfl, ?_⟩
      replace H := H.2.2.2.2.2.1 (by omega)
      show zGo d m_X9_move 223 [.ref 1031, .int a1, .int a2, zJ] [] (yz w) (zKv F)
      refine g_s (pc' := 224) rfl ?_
      refine g_getf (pc' := 227) (v := .ref 1034) rfl rfl rfl rfl rfl ?_
      refine g_s (pc' := 228) rfl ?_
      refine g_getf (pc' := 231) (v := .int (yI w 1031 9)) rfl rfl rfl rfl rfl ?_
      refine g_psh (pc' := 232) (v' := .int 1) rfl (congrArg Value.int kc_i1) ?_
      refine g_s (pc' := 233) (st' := [.int ((yI w 1031 9) - (1 : Int32)), .ref 1034]) rfl ?_
      obtain ⟨hi8, H⟩ := H
      refine g_iald (pc' := 234) rfl rfl rfl rfl rfl (Or.inl rfl) hi8 ?_
      refine g_ist (k := 3) (pc' := 235) (ls' := [.ref 1031, .int a1, .int a2, .int (yA w 1034 (Int32.toNatClampNeg ((yI w 1031 9) - (1 : Int32))))]) rfl rfl rfl rfl (zst1_of rfl (Or.inr rfl) rfl) ?_
      refine g_s (pc' := 236) rfl ?_
      refine g_getf (pc' := 239) (v := .ref 1034) rfl rfl rfl rfl rfl ?_
      refine g_s (pc' := 240) rfl ?_
      refine g_getf (pc' := 243) (v := .int (yI w 1031 9)) rfl rfl rfl rfl rfl ?_
      refine g_psh (pc' := 244) (v' := .int 1) rfl (congrArg Value.int kc_i1) ?_
      refine g_s (pc' := 245) (st' := [.int ((yI w 1031 9) - (1 : Int32)), .ref 1034]) rfl ?_
      refine g_s (pc' := 246) rfl ?_
      refine g_getf (pc' := 249) (v := .ref 1034) rfl rfl rfl rfl rfl ?_
      refine g_s (pc' := 250) rfl ?_
      refine g_getf (pc' := 253) (v := .int (yI w 1031 9)) rfl rfl rfl rfl rfl ?_
      refine g_psh (pc' := 254) (v' := .int 2) rfl (congrArg Value.int kc_i2) ?_
      refine g_s (pc' := 255) (st' := [.int ((yI w 1031 9) - (2 : Int32)), .ref 1034, .int ((yI w 1031 9) - (1 : Int32)), .ref 1034]) rfl ?_
      obtain ⟨hi9, H⟩ := H
      refine g_iald (pc' := 256) rfl rfl rfl rfl rfl (Or.inl rfl) hi9 ?_
      obtain ⟨hi10, H⟩ := H
      refine g_iast (pc' := 257) rfl rfl rfl rfl rfl rfl hi10 ?_
      refine g_s (pc' := 258) rfl ?_
      refine g_getf (pc' := 261) (v := .ref 1034) rfl rfl rfl rfl rfl ?_
      refine g_s (pc' := 262) rfl ?_
      refine g_getf (pc' := 265) (v := .int (yI w 1031 9)) rfl rfl rfl rfl rfl ?_
      refine g_psh (pc' := 266) (v' := .int 2) rfl (congrArg Value.int kc_i2) ?_
      refine g_s (pc' := 267) (st' := [.int ((yI w 1031 9) - (2 : Int32)), .ref 1034]) rfl ?_
      refine g_s (pc' := 268) rfl ?_
      obtain ⟨hi11, H⟩ := H
      refine g_iast (pc' := 269) rfl rfl rfl rfl rfl rfl hi11 ?_
      refine g_s (pc' := 401) rfl ?_
      exact g_retv rfl rfl H
    | 19, _, hx =>
      refine ⟨271, rfl, ?_⟩
      replace H := H.2.2.2.2.2.2.1 (by omega)
      show zGo d m_X9_move 272 [.ref 1031, .int a1, .int a2, zJ] [] (yz w) (zKv F)
      refine g_s (pc' := 273) rfl ?_
      refine g_s (pc' := 274) rfl ?_
      refine g_getf (pc' := 277) (v := .int (yI w 1031 9)) rfl rfl rfl rfl rfl ?_
      refine g_psh (pc' := 278) (v' := .int 1) rfl (congrArg Value.int kc_i1) ?_
      refine g_s (pc' := 279) (st' := [.int ((yI w 1031 9) - (1 : Int32)), .ref 1031]) rfl ?_
      refine g_putI (pc' := 282) rfl rfl rfl rfl rfl rfl (fun _ => rfl) ?_
      refine g_s (pc' := 401) rfl ?_
      exact g_retv rfl rfl H
    | 20, _, hx =>
      refine ⟨400, rfl, ?_⟩
      replace H := H.1 (by omega)
      show zGo d m_X9_move 401 [.ref 1031, .int a1, .int a2, zJ] [] (yz w) (zKv F)
      exact g_retv rfl rfl H
    | 21, _, hx =>
      refine ⟨271, rfl, ?_⟩
      replace H := H.2.2.2.2.2.2.1 (by omega)
      show zGo d m_X9_move 272 [.ref 1031, .int a1, .int a2, zJ] [] (yz w) (zKv F)
      refine g_s (pc' := 273) rfl ?_
      refine g_s (pc' := 274) rfl ?_
      refine g_getf (pc' := 277) (v := .int (yI w 1031 9)) rfl rfl rfl rfl rfl ?_
      refine g_psh (pc' := 278) (v' := .int 1) rfl (congrArg Value.int kc_i1) ?_
      refine g_s (pc' := 279) (st' := [.int ((yI w 1031 9) - (1 : Int32)), .ref 1031]) rfl ?_
      refine g_putI (pc' := 282) rfl rfl rfl rfl rfl rfl (fun _ => rfl) ?_
      refine g_s (pc' := 401) rfl ?_
      exact g_retv rfl rfl H
    | 22, _, hx =>
      refine ⟨271, rfl, ?_⟩
      replace H := H.2.2.2.2.2.2.1 (by omega)
      show zGo d m_X9_move 272 [.ref 1031, .int a1, .int a2, zJ] [] (yz w) (zKv F)
      refine g_s (pc' := 273) rfl ?_
      refine g_s (pc' := 274) rfl ?_
      refine g_getf (pc' := 277) (v := .int (yI w 1031 9)) rfl rfl rfl rfl rfl ?_
      refine g_psh (pc' := 278) (v' := .int 1) rfl (congrArg Value.int kc_i1) ?_
      refine g_s (pc' := 279) (st' := [.int ((yI w 1031 9) - (1 : Int32)), .ref 1031]) rfl ?_
      refine g_putI (pc' := 282) rfl rfl rfl rfl rfl rfl (fun _ => rfl) ?_
      refine g_s (pc' := 401) rfl ?_
      exact g_retv rfl rfl H
    | 23, _, hx =>
      refine ⟨284, rfl, ?_⟩
      replace H := H.2.2.2.2.2.2.2.1 (by omega)
      show zGo d m_X9_move 285 [.ref 1031, .int a1, .int a2, zJ] [] (yz w) (zKv F)
      refine g_s (pc' := 286) rfl ?_
      refine g_getf (pc' := 289) (v := .ref 1036) rfl rfl rfl rfl rfl ?_
      refine g_s (pc' := 290) rfl ?_
      refine g_getf (pc' := 293) (v := .int (yI w 1031 12)) rfl rfl rfl rfl rfl ?_
      refine g_psh (pc' := 296) (v' := .int 200) rfl (congrArg Value.int kc_s200) ?_
      refine g_div (pc' := 297) (f := (fun x y => x - x / y * y)) rfl rfl rfl rfl (by decide) ?_
      show zGo d m_X9_move 297 [.ref 1031, .int a1, .int a2, zJ] [.int ((yI w 1031 12) - (yI w 1031 12) / (200 : Int32) * (200 : Int32)), .ref 1036] (yz w) (zKv F)
      refine g_s (pc' := 298) rfl ?_
      refine g_getf (pc' := 301) (v := .ref 1034) rfl rfl rfl rfl rfl ?_
      refine g_s (pc' := 302) rfl ?_
      refine g_s (pc' := 303) rfl ?_
      refine g_getf (pc' := 306) (v := .int (yI w 1031 9)) rfl rfl rfl rfl rfl ?_
      refine g_psh (pc' := 307) (v' := .int 1) rfl (congrArg Value.int kc_i1) ?_
      refine g_s (pc' := 308) (st' := [.int ((yI w 1031 9) - (1 : Int32)), .ref 1031, .ref 1034, .int ((yI w 1031 12) - (yI w 1031 12) / (200 : Int32) * (200 : Int32)), .ref 1036]) rfl ?_
      refine g_s (pc' := 309) rfl ?_
      refine g_putI (pc' := 312) rfl rfl rfl rfl rfl rfl (fun _ => rfl) ?_
      obtain ⟨hi12, H⟩ := H
      refine g_iald (pc' := 313) rfl rfl rfl rfl rfl (Or.inl rfl) hi12 ?_
      obtain ⟨hi13, H⟩ := H
      refine g_iast (pc' := 314) rfl rfl rfl rfl rfl rfl hi13 ?_
      refine g_s (pc' := 315) rfl ?_
      refine g_s (pc' := 316) rfl ?_
      refine g_getf (pc' := 319) (v := .int (yI w 1031 12)) rfl rfl rfl rfl rfl ?_
      refine g_psh (pc' := 320) (v' := .int 1) rfl (congrArg Value.int kc_i1) ?_
      refine g_s (pc' := 321) (st' := [.int ((yI w 1031 12) + (1 : Int32)), .ref 1031]) rfl ?_
      refine g_putI (pc' := 324) rfl rfl rfl rfl rfl rfl (fun _ => rfl) ?_
      refine g_s (pc' := 401) rfl ?_
      exact g_retv rfl rfl H
    | 24, _, hx =>
      refine ⟨326, rfl, ?_⟩
      replace H := H.2.2.2.2.2.2.2.2.1 (by omega)
      show zGo d m_X9_move 327 [.ref 1031, .int a1, .int a2, zJ] [] (yz w) (zKv F)
      refine g_s (pc' := 328) rfl ?_
      refine g_getf (pc' := 331) (v := .ref 1034) rfl rfl rfl rfl rfl ?_
      refine g_s (pc' := 332) rfl ?_
      refine g_getf (pc' := 335) (v := .int (yI w 1031 9)) rfl rfl rfl rfl rfl ?_
      refine g_psh (pc' := 336) (v' := .int 1) rfl (congrArg Value.int kc_i1) ?_
      refine g_s (pc' := 337) (st' := [.int ((yI w 1031 9) - (1 : Int32)), .ref 1034]) rfl ?_
      refine g_s (pc' := 338) rfl ?_
      refine g_getf (pc' := 341) (v := .ref 1035) rfl rfl rfl rfl rfl ?_
      refine g_s (pc' := 342) rfl ?_
      refine g_getf (pc' := 345) (v := .ref 1034) rfl rfl rfl rfl rfl ?_
      refine g_s (pc' := 346) rfl ?_
      refine g_getf (pc' := 349) (v := .int (yI w 1031 9)) rfl rfl rfl rfl rfl ?_
      refine g_psh (pc' := 350) (v' := .int 1) rfl (congrArg Value.int kc_i1) ?_
      refine g_s (pc' := 351) (st' := [.int ((yI w 1031 9) - (1 : Int32)), .ref 1034, .ref 1035, .int ((yI w 1031 9) - (1 : Int32)), .ref 1034]) rfl ?_
      obtain ⟨hi14, H⟩ := H
      refine g_iald (pc' := 352) rfl rfl rfl rfl rfl (Or.inl rfl) hi14 ?_
      refine g_psh (pc' := 354) (v' := .int 31) rfl (congrArg Value.int kc_b31) ?_
      refine g_s (pc' := 355) (st' := [.int ((yA w 1034 (Int32.toNatClampNeg ((yI w 1031 9) - (1 : Int32)))) &&& (31 : Int32)), .ref 1035, .int ((yI w 1031 9) - (1 : Int32)), .ref 1034]) rfl ?_
      obtain ⟨hi15, H⟩ := H
      refine g_iald (pc' := 356) rfl rfl rfl rfl rfl (Or.inl rfl) hi15 ?_
      obtain ⟨hi16, H⟩ := H
      refine g_iast (pc' := 357) rfl rfl rfl rfl rfl rfl hi16 ?_
      refine g_s (pc' := 401) rfl ?_
      exact g_retv rfl rfl H
    | 25, _, hx =>
      refine ⟨359, rfl, ?_⟩
      replace H := H.2.2.2.2.2.2.2.2.2 (by omega)
      show zGo d m_X9_move 360 [.ref 1031, .int a1, .int a2, zJ] [] (yz w) (zKv F)
      refine g_s (pc' := 361) rfl ?_
      refine g_s (pc' := 362) rfl ?_
      refine g_getf (pc' := 365) (v := .int (yI w 1031 9)) rfl rfl rfl rfl rfl ?_
      refine g_psh (pc' := 366) (v' := .int 2) rfl (congrArg Value.int kc_i2) ?_
      refine g_s (pc' := 367) (st' := [.int ((yI w 1031 9) - (2 : Int32)), .ref 1031]) rfl ?_
      refine g_putI (pc' := 370) rfl rfl rfl rfl rfl rfl (fun _ => rfl) ?_
      refine g_s (pc' := 371) rfl ?_
      refine g_getf (pc' := 374) (v := .ref 1035) rfl rfl rfl rfl rfl ?_
      refine g_s (pc' := 375) rfl ?_
      refine g_getf (pc' := 378) (v := .ref 1034) rfl rfl rfl rfl rfl ?_
      refine g_s (pc' := 379) rfl ?_
      refine g_getf (pc' := 382) (v := .int ((yI w 1031 9) - (2 : Int32))) rfl rfl rfl rfl rfl ?_
      obtain ⟨hi17, H⟩ := H
      refine g_iald (pc' := 383) rfl rfl rfl rfl rfl (Or.inl rfl) hi17 ?_
      refine g_psh (pc' := 385) (v' := .int 31) rfl (congrArg Value.int kc_b31) ?_
      refine g_s (pc' := 386) (st' := [.int ((yA w 1034 (Int32.toNatClampNeg ((yI w 1031 9) - (2 : Int32)))) &&& (31 : Int32)), .ref 1035]) rfl ?_
      refine g_s (pc' := 387) rfl ?_
      refine g_getf (pc' := 390) (v := .ref 1034) rfl rfl rfl rfl rfl ?_
      refine g_s (pc' := 391) rfl ?_
      refine g_getf (pc' := 394) (v := .int ((yI w 1031 9) - (2 : Int32))) rfl rfl rfl rfl rfl ?_
      refine g_psh (pc' := 395) (v' := .int 1) rfl (congrArg Value.int kc_i1) ?_
      refine g_s (pc' := 396) (st' := [.int (((yI w 1031 9) - (2 : Int32)) + (1 : Int32)), .ref 1034, .int ((yA w 1034 (Int32.toNatClampNeg ((yI w 1031 9) - (2 : Int32)))) &&& (31 : Int32)), .ref 1035]) rfl ?_
      obtain ⟨hi18, H⟩ := H
      refine g_iald (pc' := 397) rfl rfl rfl rfl rfl (Or.inl rfl) hi18 ?_
      obtain ⟨hi19, H⟩ := H
      refine g_iast (pc' := 398) rfl rfl rfl rfl rfl rfl hi19 ?_
      refine g_s (pc' := 401) rfl ?_
      exact g_retv rfl rfl H
    | _ + 26, hj, _ => exact absurd hj (by omega)
set_option maxHeartbeats 4000000 in
theorem B_X9_op_0 {d : Nat} {w : zm} {F : Int32 → zm → Prop} (a1 : Int32)
    (H : (zin a1 200) ∧ F ((yA w 1032 (Int32.toNatClampNeg a1)) &&& (63 : Int32)) w) :
    zGo d m_X9_op 0 [.ref 1031, .int a1] [] (yz w) (zKi F) := by
  refine g_s (pc' := 1) rfl ?_
  refine g_getf (pc' := 4) (v := .ref 1032) rfl rfl rfl rfl rfl ?_
  refine g_s (pc' := 5) rfl ?_
  obtain ⟨hi1, H⟩ := H
  refine g_iald (pc' := 6) rfl rfl rfl rfl rfl (Or.inl rfl) hi1 ?_
  refine g_psh (pc' := 8) (v' := .int 63) rfl (congrArg Value.int kc_b63) ?_
  refine g_s (pc' := 9) (st' := [.int ((yA w 1032 (Int32.toNatClampNeg a1)) &&& (63 : Int32))]) rfl ?_
  exact g_reti rfl rfl H
set_option maxHeartbeats 4000000 in
theorem B_X9_output_0 {d : Nat} {w : zm} {F : Int32 → zm → Prop} (a1 : Int32)
    (H : ((a1 < 0 → zGo d m_X9_output 30 [.ref 1031, .int a1] [.int (1 : Int32), .ref 1031] (yz w) (zKi F)) ∧ (¬ a1 < 0 → ((a1 < ((yI w 1031 12) - (200 : Int32)) → zGo d m_X9_output 30 [.ref 1031, .int a1] [.int (1 : Int32), .ref 1031] (yz w) (zKi F)) ∧ (¬ a1 < ((yI w 1031 12) - (200 : Int32)) → ((a1 < (yI w 1031 12) → zGo d m_X9_output 30 [.ref 1031, .int a1] [.int (0 : Int32), .ref 1031] (yz w) (zKi F)) ∧ (¬ a1 < (yI w 1031 12) → zGo d m_X9_output 30 [.ref 1031, .int a1] [.int (1 : Int32), .ref 1031] (yz w) (zKi F)))))))) :
    zGo d m_X9_output 0 [.ref 1031, .int a1] [] (yz w) (zKi F) := by
  refine g_s (pc' := 1) rfl ?_
  refine g_s (pc' := 2) rfl ?_
  refine g_iflt (pc' := 5) rfl rfl (fun hc => ?_) (fun hc => ?_)
  · replace H := H.1 hc
    refine g_psh (pc' := 30) (v' := .int 1) rfl (congrArg Value.int kc_i1) ?_
    exact H
  · replace H := H.2 hc
    refine g_s (pc' := 6) rfl ?_
    refine g_s (pc' := 7) rfl ?_
    refine g_getf (pc' := 10) (v := .int (yI w 1031 12)) rfl rfl rfl rfl rfl ?_
    refine g_psh (pc' := 13) (v' := .int 200) rfl (congrArg Value.int kc_s200) ?_
    refine g_s (pc' := 14) (st' := [.int ((yI w 1031 12) - (200 : Int32)), .int a1, .ref 1031]) rfl ?_
    refine g_iclt (pc' := 17) rfl rfl (fun hc => ?_) (fun hc => ?_)
    · replace H := H.1 hc
      refine g_psh (pc' := 30) (v' := .int 1) rfl (congrArg Value.int kc_i1) ?_
      exact H
    · replace H := H.2 hc
      refine g_s (pc' := 18) rfl ?_
      refine g_s (pc' := 19) rfl ?_
      refine g_getf (pc' := 22) (v := .int (yI w 1031 12)) rfl rfl rfl rfl rfl ?_
      refine g_icge (pc' := 25) rfl rfl (fun hc => ?_) (fun hc => ?_)
      · replace H := H.1 hc
        refine g_psh (pc' := 26) (v' := .int 0) rfl (congrArg Value.int kc_i0) ?_
        refine g_s (pc' := 30) rfl ?_
        exact H
      · replace H := H.2 hc
        refine g_psh (pc' := 30) (v' := .int 1) rfl (congrArg Value.int kc_i1) ?_
        exact H
set_option maxHeartbeats 4000000 in
theorem B_X9_output_30 {d : Nat} {w : zm} {F : Int32 → zm → Prop} (a1 : Int32) (s0 : Int32)
    (H : ((0 < s0 → F (0 : Int32) (yuI w 1031 1 s0)) ∧ (¬ 0 < s0 → (zin (a1 - a1 / (200 : Int32) * (200 : Int32)) 200) ∧ F (yA w 1036 (Int32.toNatClampNeg (a1 - a1 / (200 : Int32) * (200 : Int32)))) (yuI w 1031 1 s0)))) :
    zGo d m_X9_output 30 [.ref 1031, .int a1] [.int s0, .ref 1031] (yz w) (zKi F) := by
  refine g_putI (pc' := 33) rfl rfl rfl rfl rfl rfl (fun _ => rfl) ?_
  refine g_s (pc' := 34) rfl ?_
  refine g_getf (pc' := 37) (v := .int s0) rfl rfl rfl rfl rfl ?_
  refine g_ifle (pc' := 40) rfl rfl (fun hc => ?_) (fun hc => ?_)
  · replace H := H.1 hc
    refine g_psh (pc' := 41) (v' := .int 0) rfl (congrArg Value.int kc_i0) ?_
    refine g_s (pc' := 54) rfl ?_
    exact g_reti rfl rfl H
  · replace H := H.2 hc
    refine g_s (pc' := 45) rfl ?_
    refine g_getf (pc' := 48) (v := .ref 1036) rfl rfl rfl rfl rfl ?_
    refine g_s (pc' := 49) rfl ?_
    refine g_psh (pc' := 52) (v' := .int 200) rfl (congrArg Value.int kc_s200) ?_
    refine g_div (pc' := 53) (f := (fun x y => x - x / y * y)) rfl rfl rfl rfl (by decide) ?_
    show zGo d m_X9_output 53 [.ref 1031, .int a1] [.int (a1 - a1 / (200 : Int32) * (200 : Int32)), .ref 1036] (yz (yuI w 1031 1 s0)) (zKi F)
    obtain ⟨hi1, H⟩ := H
    refine g_iald (pc' := 54) rfl rfl rfl rfl rfl (Or.inl rfl) hi1 ?_
    exact g_reti rfl rfl H
set_option maxHeartbeats 4000000 in
theorem B_X9_pass_0 {d : Nat} {w : zm} {F : Int32 → zm → Prop} (a1 : Int32) (a2 : Int32)
    (H : (zin a1 16) ∧ (zin a1 16) ∧ (zin a1 16) ∧ zGo d m_X9_follow 0 [.ref 1031, .ref 1041, .ref 1042, .int (a1 * (48 : Int32)), .int (yA w 1040 (Int32.toNatClampNeg a1)), zJ] [] (yz (yuA (yuL w 1031 15 ((yL w 1031 15) + (1 : Int64))) 1046 (Int32.toNatClampNeg a1) ((yA w 1046 (Int32.toNatClampNeg a1)) + (1 : Int32)))) (zKi fun v5 w4 => (zin a1 16) ∧ ((v5 = (yA w4 1040 (Int32.toNatClampNeg a1)) → (((1 : Int32) = 0 → zGo (d + 1) m_X9_pass 68 [.ref 1031, .int a1, .int a2, .int v5, .int (1 : Int32), .int (0 : Int32), zJ, zJ, zJ] [] (yz w4) (zKi F)) ∧ (¬ (1 : Int32) = 0 → zGo (d + 1) m_X9_pass 243 [.ref 1031, .int a1, .int a2, .int v5, .int (1 : Int32), zJ, zJ, zJ, zJ] [] (yz w4) (zKi F)))) ∧ (¬ v5 = (yA w4 1040 (Int32.toNatClampNeg a1)) → (((0 : Int32) = 0 → zGo (d + 1) m_X9_pass 68 [.ref 1031, .int a1, .int a2, .int v5, .int (0 : Int32), .int (0 : Int32), zJ, zJ, zJ] [] (yz w4) (zKi F)) ∧ (¬ (0 : Int32) = 0 → zGo (d + 1) m_X9_pass 243 [.ref 1031, .int a1, .int a2, .int v5, .int (0 : Int32), zJ, zJ, zJ, zJ] [] (yz w4) (zKi F))))))) :
    zGo (d + 1) m_X9_pass 0 [.ref 1031, .int a1, .int a2, zJ, zJ, zJ, zJ, zJ, zJ] [] (yz w) (zKi F) := by
  refine g_s (pc' := 1) rfl ?_
  refine g_s (pc' := 2) rfl ?_
  refine g_getf (pc' := 5) (v := .long (yL w 1031 15)) rfl rfl rfl rfl rfl ?_
  refine g_psh (pc' := 6) (v' := .long 1) rfl (congrArg Value.long kc_l1) ?_
  refine g_s (pc' := 7) (st' := [.long ((yL w 1031 15) + (1 : Int64)), .ref 1031]) rfl ?_
  refine g_putL (pc' := 10) rfl rfl rfl rfl rfl rfl (fun _ => rfl) ?_
  refine g_s (pc' := 11) rfl ?_
  refine g_getf (pc' := 14) (v := .ref 1046) rfl rfl rfl rfl rfl ?_
  refine g_s (pc' := 15) rfl ?_
  refine g_s (pc' := 16) rfl ?_
  obtain ⟨hi1, H⟩ := H
  refine g_iald (pc' := 17) rfl rfl rfl rfl rfl (Or.inl rfl) hi1 ?_
  refine g_psh (pc' := 18) (v' := .int 1) rfl (congrArg Value.int kc_i1) ?_
  refine g_s (pc' := 19) (st' := [.int ((yA w 1046 (Int32.toNatClampNeg a1)) + (1 : Int32)), .int a1, .ref 1046]) rfl ?_
  obtain ⟨hi2, H⟩ := H
  refine g_iast (pc' := 20) rfl rfl rfl rfl rfl rfl hi2 ?_
  refine g_s (pc' := 21) rfl ?_
  refine g_s (pc' := 22) rfl ?_
  refine g_getf (pc' := 25) (v := .ref 1041) rfl rfl rfl rfl rfl ?_
  refine g_s (pc' := 26) rfl ?_
  refine g_getf (pc' := 29) (v := .ref 1042) rfl rfl rfl rfl rfl ?_
  refine g_s (pc' := 30) rfl ?_
  refine g_psh (pc' := 32) (v' := .int 48) rfl (congrArg Value.int kc_b48) ?_
  refine g_s (pc' := 33) (st' := [.int (a1 * (48 : Int32)), .ref 1042, .ref 1041, .ref 1031]) rfl ?_
  refine g_s (pc' := 34) rfl ?_
  refine g_getf (pc' := 37) (v := .ref 1040) rfl rfl rfl rfl rfl ?_
  refine g_s (pc' := 38) rfl ?_
  obtain ⟨hi3, H⟩ := H
  refine g_iald (pc' := 39) rfl rfl rfl rfl rfl (Or.inl rfl) hi3 ?_
  refine g_calli (a := m_X9_follow) (as := [.ref 1031, .ref 1041, .ref 1042, .int (a1 * (48 : Int32)), .int (yA w 1040 (Int32.toNatClampNeg a1))]) (rest := []) (ls0 := [.ref 1031, .ref 1041, .ref 1042, .int (a1 * (48 : Int32)), .int (yA w 1040 (Int32.toNatClampNeg a1)), zJ]) (pc' := 42) (t_virt rfl rfl rfl rfl rfl rfl) rfl rfl rfl ?_
  refine zGo.mono H (zKi_mono ?_)
  intro v5 w4 H
  refine g_ist (k := 3) (pc' := 43) (ls' := [.ref 1031, .int a1, .int a2, .int v5, zJ, zJ, zJ, zJ, zJ]) rfl rfl rfl rfl (zst1_of rfl (Or.inr rfl) rfl) ?_
  refine g_s (pc' := 44) rfl ?_
  refine g_s (pc' := 45) rfl ?_
  refine g_getf (pc' := 48) (v := .ref 1040) rfl rfl rfl rfl rfl ?_
  refine g_s (pc' := 49) rfl ?_
  obtain ⟨hi6, H⟩ := H
  refine g_iald (pc' := 50) rfl rfl rfl rfl rfl (Or.inl rfl) hi6 ?_
  refine g_icne (pc' := 53) rfl rfl (fun hc => ?_) (fun hc => ?_)
  · replace H := H.1 hc
    refine g_psh (pc' := 54) (v' := .int 1) rfl (congrArg Value.int kc_i1) ?_
    refine g_s (pc' := 58) rfl ?_
    refine g_ist (k := 4) (pc' := 60) (ls' := [.ref 1031, .int a1, .int a2, .int v5, .int (1 : Int32), zJ, zJ, zJ, zJ]) rfl rfl rfl rfl (zst1_of rfl (Or.inr rfl) rfl) ?_
    refine g_s (pc' := 62) rfl ?_
    refine g_ifne (pc' := 65) rfl rfl (fun hc => ?_) (fun hc => ?_)
    · replace H := H.1 hc
      refine g_psh (pc' := 66) (v' := .int 0) rfl (congrArg Value.int kc_i0) ?_
      refine g_ist (k := 5) (pc' := 68) (ls' := [.ref 1031, .int a1, .int a2, .int v5, .int (1 : Int32), .int (0 : Int32), zJ, zJ, zJ]) rfl rfl rfl rfl (zst1_of rfl (Or.inr rfl) rfl) ?_
      exact H
    · replace H := H.2 hc
      exact H
  · replace H := H.2 hc
    refine g_psh (pc' := 58) (v' := .int 0) rfl (congrArg Value.int kc_i0) ?_
    refine g_ist (k := 4) (pc' := 60) (ls' := [.ref 1031, .int a1, .int a2, .int v5, .int (0 : Int32), zJ, zJ, zJ, zJ]) rfl rfl rfl rfl (zst1_of rfl (Or.inr rfl) rfl) ?_
    refine g_s (pc' := 62) rfl ?_
    refine g_ifne (pc' := 65) rfl rfl (fun hc => ?_) (fun hc => ?_)
    · replace H := H.1 hc
      refine g_psh (pc' := 66) (v' := .int 0) rfl (congrArg Value.int kc_i0) ?_
      refine g_ist (k := 5) (pc' := 68) (ls' := [.ref 1031, .int a1, .int a2, .int v5, .int (0 : Int32), .int (0 : Int32), zJ, zJ, zJ]) rfl rfl rfl rfl (zst1_of rfl (Or.inr rfl) rfl) ?_
      exact H
    · replace H := H.2 hc
      exact H
set_option maxHeartbeats 4000000 in
theorem B_X9_pass_68 {d : Nat} {w : zm} {F : Int32 → zm → Prop} (a1 : Int32) (a2 : Int32) (a3 : Int32) (a4 : Int32) (a5 : Int32)
    (H : (zin ((a1 * (48 : Int32)) + a5) 768) ∧ (((yA w 1049 (Int32.toNatClampNeg ((a1 * (48 : Int32)) + a5))) = a3 → (zin ((a1 * (48 : Int32)) + a5) 768) ∧ (zin ((a1 * (48 : Int32)) + a5) 768) ∧ (zin ((a1 * (48 : Int32)) + a5) 768) ∧ (((yA w 1052 (Int32.toNatClampNeg ((a1 * (48 : Int32)) + a5))) < 0 → zGo (d + 1) m_X9_pass 190 [.ref 1031, .int a1, .int a2, .int a3, .int a4, .int a5, .int ((a1 * (48 : Int32)) + a5), .int (yA w 1052 (Int32.toNatClampNeg ((a1 * (48 : Int32)) + a5))), zJ] [] (yz (yuA w 1050 (Int32.toNatClampNeg ((a1 * (48 : Int32)) + a5)) ((yA w 1050 (Int32.toNatClampNeg ((a1 * (48 : Int32)) + a5))) + (1 : Int32)))) (zKi F)) ∧ (¬ (yA w 1052 (Int32.toNatClampNeg ((a1 * (48 : Int32)) + a5))) < 0 → (zin (yA w 1052 (Int32.toNatClampNeg ((a1 * (48 : Int32)) + a5))) 64) ∧ (((a2 - a3) < (yA w 1053 (Int32.toNatClampNeg (yA w 1052 (Int32.toNatClampNeg ((a1 * (48 : Int32)) + a5))))) → zGo (d + 1) m_X9_pass 190 [.ref 1031, .int a1, .int a2, .int a3, .int a4, .int a5, .int ((a1 * (48 : Int32)) + a5), .int (yA w 1052 (Int32.toNatClampNeg ((a1 * (48 : Int32)) + a5))), zJ] [] (yz (yuA w 1050 (Int32.toNatClampNeg ((a1 * (48 : Int32)) + a5)) ((yA w 1050 (Int32.toNatClampNeg ((a1 * (48 : Int32)) + a5))) + (1 : Int32)))) (zKi F)) ∧ (¬ (a2 - a3) < (yA w 1053 (Int32.toNatClampNeg (yA w 1052 (Int32.toNatClampNeg ((a1 * (48 : Int32)) + a5))))) → (zin (yA w 1052 (Int32.toNatClampNeg ((a1 * (48 : Int32)) + a5))) 64) ∧ zGo d m_X9_follow 0 [.ref 1031, .ref 1054, .ref 1055, .int ((yA w 1052 (Int32.toNatClampNeg ((a1 * (48 : Int32)) + a5))) * (48 : Int32)), .int (yA w 1053 (Int32.toNatClampNeg (yA w 1052 (Int32.toNatClampNeg ((a1 * (48 : Int32)) + a5))))), zJ] [] (yz (yuA w 1050 (Int32.toNatClampNeg ((a1 * (48 : Int32)) + a5)) ((yA w 1050 (Int32.toNatClampNeg ((a1 * (48 : Int32)) + a5))) + (1 : Int32)))) (zKi fun v8 w7 => (zin (yA w 1052 (Int32.toNatClampNeg ((a1 * (48 : Int32)) + a5))) 64) ∧ ((v8 = (yA w7 1053 (Int32.toNatClampNeg (yA w 1052 (Int32.toNatClampNeg ((a1 * (48 : Int32)) + a5))))) → zGo (d + 1) m_X9_pass 243 [.ref 1031, .int a1, .int a2, .int (a3 + v8), .int (1 : Int32), .int a5, .int ((a1 * (48 : Int32)) + a5), .int (yA w 1052 (Int32.toNatClampNeg ((a1 * (48 : Int32)) + a5))), .int v8] [] (yz w7) (zKi F)) ∧ (¬ v8 = (yA w7 1053 (Int32.toNatClampNeg (yA w 1052 (Int32.toNatClampNeg ((a1 * (48 : Int32)) + a5))))) → zGo (d + 1) m_X9_pass 243 [.ref 1031, .int a1, .int a2, .int (a3 + v8), .int (0 : Int32), .int a5, .int ((a1 * (48 : Int32)) + a5), .int (yA w 1052 (Int32.toNatClampNeg ((a1 * (48 : Int32)) + a5))), .int v8] [] (yz w7) (zKi F))))))))) ∧ (¬ (yA w 1049 (Int32.toNatClampNeg ((a1 * (48 : Int32)) + a5))) = a3 → zGo (d + 1) m_X9_pass 68 [.ref 1031, .int a1, .int a2, .int a3, .int a4, .int (a5 + 1), zJ, zJ, zJ] [] (yz w) (zKi F)))) :
    zGo (d + 1) m_X9_pass 68 [.ref 1031, .int a1, .int a2, .int a3, .int a4, .int a5, zJ, zJ, zJ] [] (yz w) (zKi F) := by
  refine g_s (pc' := 69) rfl ?_
  refine g_getf (pc' := 72) (v := .ref 1049) rfl rfl rfl rfl rfl ?_
  refine g_s (pc' := 73) rfl ?_
  refine g_psh (pc' := 75) (v' := .int 48) rfl (congrArg Value.int kc_b48) ?_
  refine g_s (pc' := 76) (st' := [.int (a1 * (48 : Int32)), .ref 1049]) rfl ?_
  refine g_s (pc' := 78) rfl ?_
  refine g_s (pc' := 79) (st' := [.int ((a1 * (48 : Int32)) + a5), .ref 1049]) rfl ?_
  obtain ⟨hi1, H⟩ := H
  refine g_iald (pc' := 80) rfl rfl rfl rfl rfl (Or.inl rfl) hi1 ?_
  refine g_s (pc' := 81) rfl ?_
  refine g_iceq (pc' := 84) rfl rfl (fun hc => ?_) (fun hc => ?_)
  · replace H := H.1 hc
    refine g_s (pc' := 91) rfl ?_
    refine g_psh (pc' := 93) (v' := .int 48) rfl (congrArg Value.int kc_b48) ?_
    refine g_s (pc' := 94) (st' := [.int (a1 * (48 : Int32))]) rfl ?_
    refine g_s (pc' := 96) rfl ?_
    refine g_s (pc' := 97) (st' := [.int ((a1 * (48 : Int32)) + a5)]) rfl ?_
    refine g_ist (k := 6) (pc' := 99) (ls' := [.ref 1031, .int a1, .int a2, .int a3, .int a4, .int a5, .int ((a1 * (48 : Int32)) + a5), zJ, zJ]) rfl rfl rfl rfl (zst1_of rfl (Or.inr rfl) rfl) ?_
    refine g_s (pc' := 100) rfl ?_
    refine g_getf (pc' := 103) (v := .ref 1050) rfl rfl rfl rfl rfl ?_
    refine g_s (pc' := 105) rfl ?_
    refine g_s (pc' := 106) rfl ?_
    obtain ⟨hi2, H⟩ := H
    refine g_iald (pc' := 107) rfl rfl rfl rfl rfl (Or.inl rfl) hi2 ?_
    refine g_psh (pc' := 108) (v' := .int 1) rfl (congrArg Value.int kc_i1) ?_
    refine g_s (pc' := 109) (st' := [.int ((yA w 1050 (Int32.toNatClampNeg ((a1 * (48 : Int32)) + a5))) + (1 : Int32)), .int ((a1 * (48 : Int32)) + a5), .ref 1050]) rfl ?_
    obtain ⟨hi3, H⟩ := H
    refine g_iast (pc' := 110) rfl rfl rfl rfl rfl rfl hi3 ?_
    refine g_s (pc' := 111) rfl ?_
    refine g_getf (pc' := 114) (v := .ref 1052) rfl rfl rfl rfl rfl ?_
    refine g_s (pc' := 116) rfl ?_
    obtain ⟨hi4, H⟩ := H
    refine g_iald (pc' := 117) rfl rfl rfl rfl rfl (Or.inl rfl) hi4 ?_
    refine g_ist (k := 7) (pc' := 119) (ls' := [.ref 1031, .int a1, .int a2, .int a3, .int a4, .int a5, .int ((a1 * (48 : Int32)) + a5), .int (yA w 1052 (Int32.toNatClampNeg ((a1 * (48 : Int32)) + a5))), zJ]) rfl rfl rfl rfl (zst1_of rfl (Or.inr rfl) rfl) ?_
    refine g_s (pc' := 121) rfl ?_
    refine g_iflt (pc' := 124) rfl rfl (fun hc => ?_) (fun hc => ?_)
    · replace H := H.1 hc
      exact H
    · replace H := H.2 hc
      refine g_s (pc' := 125) rfl ?_
      refine g_getf (pc' := 128) (v := .ref 1053) rfl rfl rfl rfl rfl ?_
      refine g_s (pc' := 130) rfl ?_
      obtain ⟨hi5, H⟩ := H
      refine g_iald (pc' := 131) rfl rfl rfl rfl rfl (Or.inl rfl) hi5 ?_
      refine g_s (pc' := 132) rfl ?_
      refine g_s (pc' := 133) rfl ?_
      refine g_s (pc' := 134) (st' := [.int (a2 - a3), .int (yA w 1053 (Int32.toNatClampNeg (yA w 1052 (Int32.toNatClampNeg ((a1 * (48 : Int32)) + a5)))))]) rfl ?_
      refine g_icgt (pc' := 137) rfl rfl (fun hc => ?_) (fun hc => ?_)
      · replace H := H.1 hc
        exact H
      · replace H := H.2 hc
        refine g_s (pc' := 138) rfl ?_
        refine g_s (pc' := 139) rfl ?_
        refine g_getf (pc' := 142) (v := .ref 1054) rfl rfl rfl rfl rfl ?_
        refine g_s (pc' := 143) rfl ?_
        refine g_getf (pc' := 146) (v := .ref 1055) rfl rfl rfl rfl rfl ?_
        refine g_s (pc' := 148) rfl ?_
        refine g_psh (pc' := 150) (v' := .int 48) rfl (congrArg Value.int kc_b48) ?_
        refine g_s (pc' := 151) (st' := [.int ((yA w 1052 (Int32.toNatClampNeg ((a1 * (48 : Int32)) + a5))) * (48 : Int32)), .ref 1055, .ref 1054, .ref 1031]) rfl ?_
        refine g_s (pc' := 152) rfl ?_
        refine g_getf (pc' := 155) (v := .ref 1053) rfl rfl rfl rfl rfl ?_
        refine g_s (pc' := 157) rfl ?_
        obtain ⟨hi6, H⟩ := H
        refine g_iald (pc' := 158) rfl rfl rfl rfl rfl (Or.inl rfl) hi6 ?_
        refine g_calli (a := m_X9_follow) (as := [.ref 1031, .ref 1054, .ref 1055, .int ((yA w 1052 (Int32.toNatClampNeg ((a1 * (48 : Int32)) + a5))) * (48 : Int32)), .int (yA w 1053 (Int32.toNatClampNeg (yA w 1052 (Int32.toNatClampNeg ((a1 * (48 : Int32)) + a5)))))]) (rest := []) (ls0 := [.ref 1031, .ref 1054, .ref 1055, .int ((yA w 1052 (Int32.toNatClampNeg ((a1 * (48 : Int32)) + a5))) * (48 : Int32)), .int (yA w 1053 (Int32.toNatClampNeg (yA w 1052 (Int32.toNatClampNeg ((a1 * (48 : Int32)) + a5))))), zJ]) (pc' := 161) (t_virt rfl rfl rfl rfl rfl rfl) rfl rfl rfl ?_
        refine zGo.mono H (zKi_mono ?_)
        intro v8 w7 H
        refine g_ist (k := 8) (pc' := 163) (ls' := [.ref 1031, .int a1, .int a2, .int a3, .int a4, .int a5, .int ((a1 * (48 : Int32)) + a5), .int (yA w 1052 (Int32.toNatClampNeg ((a1 * (48 : Int32)) + a5))), .int v8]) rfl rfl rfl rfl (zst1_of rfl (Or.inr rfl) rfl) ?_
        refine g_s (pc' := 164) rfl ?_
        refine g_s (pc' := 166) rfl ?_
        refine g_s (pc' := 167) (st' := [.int (a3 + v8)]) rfl ?_
        refine g_ist (k := 3) (pc' := 168) (ls' := [.ref 1031, .int a1, .int a2, .int (a3 + v8), .int a4, .int a5, .int ((a1 * (48 : Int32)) + a5), .int (yA w 1052 (Int32.toNatClampNeg ((a1 * (48 : Int32)) + a5))), .int v8]) rfl rfl rfl rfl (zst1_of rfl (Or.inr rfl) rfl) ?_
        refine g_s (pc' := 170) rfl ?_
        refine g_s (pc' := 171) rfl ?_
        refine g_getf (pc' := 174) (v := .ref 1053) rfl rfl rfl rfl rfl ?_
        refine g_s (pc' := 176) rfl ?_
        obtain ⟨hi9, H⟩ := H
        refine g_iald (pc' := 177) rfl rfl rfl rfl rfl (Or.inl rfl) hi9 ?_
        refine g_icne (pc' := 180) rfl rfl (fun hc => ?_) (fun hc => ?_)
        · replace H := H.1 hc
          refine g_psh (pc' := 181) (v' := .int 1) rfl (congrArg Value.int kc_i1) ?_
          refine g_s (pc' := 185) rfl ?_
          refine g_ist (k := 4) (pc' := 187) (ls' := [.ref 1031, .int a1, .int a2, .int (a3 + v8), .int (1 : Int32), .int a5, .int ((a1 * (48 : Int32)) + a5), .int (yA w 1052 (Int32.toNatClampNeg ((a1 * (48 : Int32)) + a5))), .int v8]) rfl rfl rfl rfl (zst1_of rfl (Or.inr rfl) rfl) ?_
          refine g_s (pc' := 243) rfl ?_
          exact H
        · replace H := H.2 hc
          refine g_psh (pc' := 185) (v' := .int 0) rfl (congrArg Value.int kc_i0) ?_
          refine g_ist (k := 4) (pc' := 187) (ls' := [.ref 1031, .int a1, .int a2, .int (a3 + v8), .int (0 : Int32), .int a5, .int ((a1 * (48 : Int32)) + a5), .int (yA w 1052 (Int32.toNatClampNeg ((a1 * (48 : Int32)) + a5))), .int v8]) rfl rfl rfl rfl (zst1_of rfl (Or.inr rfl) rfl) ?_
          refine g_s (pc' := 243) rfl ?_
          exact H
  · replace H := H.2 hc
    refine g_inc (pc' := 87) (ls' := [.ref 1031, .int a1, .int a2, .int a3, .int a4, .int (a5 + 1), zJ, zJ, zJ]) rfl rfl rfl kc_i1 (zst1_of rfl (Or.inr rfl) rfl) ?_
    refine g_s (pc' := 68) rfl ?_
    exact H
set_option maxHeartbeats 4000000 in
theorem B_X9_pass_190 {d : Nat} {w : zm} {F : Int32 → zm → Prop} (a1 : Int32) (a2 : Int32) (a3 : Int32) (a4 : Int32) (a5 : Int32) (a6 : Int32) (a7 : Int32)
    (H : ((a7 < 0 → (zin a6 768) ∧ (((yA w 1050 (Int32.toNatClampNeg a6)) < (yI w 1031 0) → zGo (d + 1) m_X9_pass 243 [.ref 1031, .int a1, .int a2, .int a3, .int a4, .int a5, .int a6, .int a7, zJ] [] (yz w) (zKi F)) ∧ (¬ (yA w 1050 (Int32.toNatClampNeg a6)) < (yI w 1031 0) → (zin a6 768) ∧ (((yA w 1051 (Int32.toNatClampNeg a6)) < (3 : Int32) → (zin a1 16) ∧ (((yA w 1048 (Int32.toNatClampNeg a1)) < (4 : Int32) → (zin a1 16) ∧ zGo d m_X9_begin 0 [.ref 1031, .int (yA w 1039 (Int32.toNatClampNeg a1)), .int a1, .int a5] [] (yz w) (zKv fun w5 => zGo (d + 1) m_X9_pass 243 [.ref 1031, .int a1, .int a2, .int a3, .int a4, .int a5, .int a6, .int a7, zJ] [] (yz w5) (zKi F))) ∧ (¬ (yA w 1048 (Int32.toNatClampNeg a1)) < (4 : Int32) → zGo (d + 1) m_X9_pass 243 [.ref 1031, .int a1, .int a2, .int a3, .int a4, .int a5, .int a6, .int a7, zJ] [] (yz w) (zKi F)))) ∧ (¬ (yA w 1051 (Int32.toNatClampNeg a6)) < (3 : Int32) → zGo (d + 1) m_X9_pass 243 [.ref 1031, .int a1, .int a2, .int a3, .int a4, .int a5, .int a6, .int a7, zJ] [] (yz w) (zKi F)))))) ∧ (¬ a7 < 0 → zGo (d + 1) m_X9_pass 243 [.ref 1031, .int a1, .int a2, .int a3, .int a4, .int a5, .int a6, .int a7, zJ] [] (yz w) (zKi F)))) :
    zGo (d + 1) m_X9_pass 190 [.ref 1031, .int a1, .int a2, .int a3, .int a4, .int a5, .int a6, .int a7, zJ] [] (yz w) (zKi F) := by
  refine g_s (pc' := 192) rfl ?_
  refine g_ifge (pc' := 195) rfl rfl (fun hc => ?_) (fun hc => ?_)
  · replace H := H.1 hc
    refine g_s (pc' := 196) rfl ?_
    refine g_getf (pc' := 199) (v := .ref 1050) rfl rfl rfl rfl rfl ?_
    refine g_s (pc' := 201) rfl ?_
    obtain ⟨hi1, H⟩ := H
    refine g_iald (pc' := 202) rfl rfl rfl rfl rfl (Or.inl rfl) hi1 ?_
    refine g_s (pc' := 203) rfl ?_
    refine g_getf (pc' := 206) (v := .int (yI w 1031 0)) rfl rfl rfl rfl rfl ?_
    refine g_iclt (pc' := 209) rfl rfl (fun hc => ?_) (fun hc => ?_)
    · replace H := H.1 hc
      exact H
    · replace H := H.2 hc
      refine g_s (pc' := 210) rfl ?_
      refine g_getf (pc' := 213) (v := .ref 1051) rfl rfl rfl rfl rfl ?_
      refine g_s (pc' := 215) rfl ?_
      obtain ⟨hi2, H⟩ := H
      refine g_iald (pc' := 216) rfl rfl rfl rfl rfl (Or.inl rfl) hi2 ?_
      refine g_psh (pc' := 217) (v' := .int 3) rfl (congrArg Value.int kc_i3) ?_
      refine g_icge (pc' := 220) rfl rfl (fun hc => ?_) (fun hc => ?_)
      · replace H := H.1 hc
        refine g_s (pc' := 221) rfl ?_
        refine g_getf (pc' := 224) (v := .ref 1048) rfl rfl rfl rfl rfl ?_
        refine g_s (pc' := 225) rfl ?_
        obtain ⟨hi3, H⟩ := H
        refine g_iald (pc' := 226) rfl rfl rfl rfl rfl (Or.inl rfl) hi3 ?_
        refine g_psh (pc' := 227) (v' := .int 4) rfl (congrArg Value.int kc_i4) ?_
        refine g_icge (pc' := 230) rfl rfl (fun hc => ?_) (fun hc => ?_)
        · replace H := H.1 hc
          refine g_s (pc' := 231) rfl ?_
          refine g_s (pc' := 232) rfl ?_
          refine g_getf (pc' := 235) (v := .ref 1039) rfl rfl rfl rfl rfl ?_
          refine g_s (pc' := 236) rfl ?_
          obtain ⟨hi4, H⟩ := H
          refine g_iald (pc' := 237) rfl rfl rfl rfl rfl (Or.inl rfl) hi4 ?_
          refine g_s (pc' := 238) rfl ?_
          refine g_s (pc' := 240) rfl ?_
          refine g_callv (a := m_X9_begin) (as := [.ref 1031, .int (yA w 1039 (Int32.toNatClampNeg a1)), .int a1, .int a5]) (rest := []) (ls0 := [.ref 1031, .int (yA w 1039 (Int32.toNatClampNeg a1)), .int a1, .int a5]) (pc' := 243) (t_virt rfl rfl rfl rfl rfl rfl) rfl rfl rfl ?_
          refine zGo.mono H (zKv_mono ?_)
          intro w5 H
          exact H
        · replace H := H.2 hc
          exact H
      · replace H := H.2 hc
        exact H
  · replace H := H.2 hc
    exact H
set_option maxHeartbeats 4000000 in
theorem B_X9_pass_243 {d : Nat} {w : zm} {F : Int32 → zm → Prop} (a1 : Int32) (a2 : Int32) (a3 : Int32) (a4 : Int32) (ua5 : Value) (ua6 : Value) (ua7 : Value) (ua8 : Value) (hua5 : zisL ua5 = false) (hua6 : zisL ua6 = false) (hua7 : zisL ua7 = false) (hua8 : zisL ua8 = false)
    (H : ((a4 = 0 → zGo (d + 1) m_X9_pass 268 [.ref 1031, .int a1, .int a2, .int a3, .int a4, ua5, ua6, ua7, ua8] [] (yz w) (zKi F)) ∧ (¬ a4 = 0 → (zin a1 16) ∧ (zin a1 16) ∧ zGo (d + 1) m_X9_pass 268 [.ref 1031, .int a1, .int a2, .int a3, .int a4, ua5, ua6, ua7, ua8] [] (yz (yuA (yuL w 1031 16 ((yL w 1031 16) + (1 : Int64))) 1047 (Int32.toNatClampNeg a1) ((yA w 1047 (Int32.toNatClampNeg a1)) + (1 : Int32)))) (zKi F)))) :
    zGo (d + 1) m_X9_pass 243 [.ref 1031, .int a1, .int a2, .int a3, .int a4, ua5, ua6, ua7, ua8] [] (yz w) (zKi F) := by
  refine g_s (pc' := 245) rfl ?_
  refine g_ifeq (pc' := 248) rfl rfl (fun hc => ?_) (fun hc => ?_)
  · replace H := H.1 hc
    exact H
  · replace H := H.2 hc
    refine g_s (pc' := 249) rfl ?_
    refine g_s (pc' := 250) rfl ?_
    refine g_getf (pc' := 253) (v := .long (yL w 1031 16)) rfl rfl rfl rfl rfl ?_
    refine g_psh (pc' := 254) (v' := .long 1) rfl (congrArg Value.long kc_l1) ?_
    refine g_s (pc' := 255) (st' := [.long ((yL w 1031 16) + (1 : Int64)), .ref 1031]) rfl ?_
    refine g_putL (pc' := 258) rfl rfl rfl rfl rfl rfl (fun _ => rfl) ?_
    refine g_s (pc' := 259) rfl ?_
    refine g_getf (pc' := 262) (v := .ref 1047) rfl rfl rfl rfl rfl ?_
    refine g_s (pc' := 263) rfl ?_
    refine g_s (pc' := 264) rfl ?_
    obtain ⟨hi1, H⟩ := H
    refine g_iald (pc' := 265) rfl rfl rfl rfl rfl (Or.inl rfl) hi1 ?_
    refine g_psh (pc' := 266) (v' := .int 1) rfl (congrArg Value.int kc_i1) ?_
    refine g_s (pc' := 267) (st' := [.int ((yA w 1047 (Int32.toNatClampNeg a1)) + (1 : Int32)), .int a1, .ref 1047]) rfl ?_
    obtain ⟨hi2, H⟩ := H
    refine g_iast (pc' := 268) rfl rfl rfl rfl rfl rfl hi2 ?_
    exact H
set_option maxHeartbeats 4000000 in
theorem B_X9_pass_268 {d : Nat} {w : zm} {F : Int32 → zm → Prop} (a1 : Int32) (a2 : Int32) (a3 : Int32) (a4 : Int32) (ua5 : Value) (ua6 : Value) (ua7 : Value) (ua8 : Value) (hua5 : zisL ua5 = false) (hua6 : zisL ua6 = false) (hua7 : zisL ua7 = false) (hua8 : zisL ua8 = false)
    (H : ((a4 = 0 → F a3 (yuI w 1031 19 (1 : Int32))) ∧ (¬ a4 = 0 → F a3 (yuI w 1031 19 (0 : Int32))))) :
    zGo (d + 1) m_X9_pass 268 [.ref 1031, .int a1, .int a2, .int a3, .int a4, ua5, ua6, ua7, ua8] [] (yz w) (zKi F) := by
  refine g_s (pc' := 269) rfl ?_
  refine g_s (pc' := 271) rfl ?_
  refine g_ifne (pc' := 274) rfl rfl (fun hc => ?_) (fun hc => ?_)
  · replace H := H.1 hc
    refine g_psh (pc' := 275) (v' := .int 1) rfl (congrArg Value.int kc_i1) ?_
    refine g_s (pc' := 279) rfl ?_
    refine g_putI (pc' := 282) rfl rfl rfl rfl rfl (zfitb _ (Or.inr rfl)) (fun _ => rfl) ?_
    refine g_s (pc' := 283) rfl ?_
    exact g_reti rfl rfl H
  · replace H := H.2 hc
    refine g_psh (pc' := 279) (v' := .int 0) rfl (congrArg Value.int kc_i0) ?_
    refine g_putI (pc' := 282) rfl rfl rfl rfl rfl (zfitb _ (Or.inl rfl)) (fun _ => rfl) ?_
    refine g_s (pc' := 283) rfl ?_
    exact g_reti rfl rfl H
set_option maxHeartbeats 4000000 in
theorem B_X9_peek_0 {d : Nat} {w : zm} {F : Int32 → zm → Prop} (a1 : Int32)
    (H : (zin a1 400) ∧ (((yA w 1064 (Int32.toNatClampNeg a1)) = 0 → zGo (d + 1) m_X9_peek 57 [.ref 1031, .int a1, .int (0 : Int32)] [] (yz w) (zKi F)) ∧ (¬ (yA w 1064 (Int32.toNatClampNeg a1)) = 0 → (zin a1 400) ∧ (zin ((yA w 1065 (Int32.toNatClampNeg a1)) &&& (31 : Int32)) 32) ∧ (((yA w 1073 (Int32.toNatClampNeg ((yA w 1065 (Int32.toNatClampNeg a1)) &&& (31 : Int32)))) < 0 → zGo d m_X9_value 0 [.ref 1031] [] (yz w) (zKi fun v5 w4 => (zin ((yA w 1065 (Int32.toNatClampNeg a1)) &&& (31 : Int32)) 32) ∧ (zin ((yA w 1065 (Int32.toNatClampNeg a1)) &&& (31 : Int32)) 32) ∧ F (yA (yuA w4 1073 (Int32.toNatClampNeg ((yA w 1065 (Int32.toNatClampNeg a1)) &&& (31 : Int32))) v5) 1073 (Int32.toNatClampNeg ((yA w 1065 (Int32.toNatClampNeg a1)) &&& (31 : Int32)))) (yuI (yuA w4 1073 (Int32.toNatClampNeg ((yA w 1065 (Int32.toNatClampNeg a1)) &&& (31 : Int32))) v5) 1031 52 ((yI w4 1031 52) + (1 : Int32))))) ∧ (¬ (yA w 1073 (Int32.toNatClampNeg ((yA w 1065 (Int32.toNatClampNeg a1)) &&& (31 : Int32)))) < 0 → (zin ((yA w 1065 (Int32.toNatClampNeg a1)) &&& (31 : Int32)) 32) ∧ F (yA w 1073 (Int32.toNatClampNeg ((yA w 1065 (Int32.toNatClampNeg a1)) &&& (31 : Int32)))) w))))) :
    zGo (d + 1) m_X9_peek 0 [.ref 1031, .int a1, zJ] [] (yz w) (zKi F) := by
  refine g_s (pc' := 1) rfl ?_
  refine g_getf (pc' := 4) (v := .ref 1064) rfl rfl rfl rfl rfl ?_
  refine g_s (pc' := 5) rfl ?_
  obtain ⟨hi1, H⟩ := H
  refine g_zald (pc' := 6) rfl rfl rfl rfl rfl hi1 ?_
  refine g_ifeq (pc' := 9) rfl rfl (fun hc => ?_) (fun hc => ?_)
  · replace H := H.1 hc
    refine g_psh (pc' := 56) (v' := .int 0) rfl (congrArg Value.int kc_i0) ?_
    refine g_ist (k := 2) (pc' := 57) (ls' := [.ref 1031, .int a1, .int (0 : Int32)]) rfl rfl rfl rfl (zst1_of rfl (Or.inr rfl) rfl) ?_
    exact H
  · replace H := H.2 hc
    refine g_s (pc' := 10) rfl ?_
    refine g_getf (pc' := 13) (v := .ref 1065) rfl rfl rfl rfl rfl ?_
    refine g_s (pc' := 14) rfl ?_
    obtain ⟨hi2, H⟩ := H
    refine g_iald (pc' := 15) rfl rfl rfl rfl rfl (Or.inl rfl) hi2 ?_
    refine g_psh (pc' := 17) (v' := .int 31) rfl (congrArg Value.int kc_b31) ?_
    refine g_s (pc' := 18) (st' := [.int ((yA w 1065 (Int32.toNatClampNeg a1)) &&& (31 : Int32))]) rfl ?_
    refine g_ist (k := 2) (pc' := 19) (ls' := [.ref 1031, .int a1, .int ((yA w 1065 (Int32.toNatClampNeg a1)) &&& (31 : Int32))]) rfl rfl rfl rfl (zst1_of rfl (Or.inr rfl) rfl) ?_
    refine g_s (pc' := 20) rfl ?_
    refine g_getf (pc' := 23) (v := .ref 1073) rfl rfl rfl rfl rfl ?_
    refine g_s (pc' := 24) rfl ?_
    obtain ⟨hi3, H⟩ := H
    refine g_iald (pc' := 25) rfl rfl rfl rfl rfl (Or.inl rfl) hi3 ?_
    refine g_ifge (pc' := 28) rfl rfl (fun hc => ?_) (fun hc => ?_)
    · replace H := H.1 hc
      refine g_s (pc' := 29) rfl ?_
      refine g_getf (pc' := 32) (v := .ref 1073) rfl rfl rfl rfl rfl ?_
      refine g_s (pc' := 33) rfl ?_
      refine g_s (pc' := 34) rfl ?_
      refine g_calli (a := m_X9_value) (as := [.ref 1031]) (rest := [.int ((yA w 1065 (Int32.toNatClampNeg a1)) &&& (31 : Int32)), .ref 1073]) (ls0 := [.ref 1031]) (pc' := 37) (t_virt rfl rfl rfl rfl rfl rfl) rfl rfl rfl ?_
      refine zGo.mono H (zKi_mono ?_)
      intro v5 w4 H
      obtain ⟨hi6, H⟩ := H
      refine g_iast (pc' := 38) rfl rfl rfl rfl rfl rfl hi6 ?_
      refine g_s (pc' := 39) rfl ?_
      refine g_s (pc' := 40) rfl ?_
      refine g_getf (pc' := 43) (v := .int (yI w4 1031 52)) rfl rfl rfl rfl rfl ?_
      refine g_psh (pc' := 44) (v' := .int 1) rfl (congrArg Value.int kc_i1) ?_
      refine g_s (pc' := 45) (st' := [.int ((yI w4 1031 52) + (1 : Int32)), .ref 1031]) rfl ?_
      refine g_putI (pc' := 48) rfl rfl rfl rfl rfl rfl (fun _ => rfl) ?_
      refine g_s (pc' := 49) rfl ?_
      refine g_getf (pc' := 52) (v := .ref 1073) rfl rfl rfl rfl rfl ?_
      refine g_s (pc' := 53) rfl ?_
      obtain ⟨hi7, H⟩ := H
      refine g_iald (pc' := 54) rfl rfl rfl rfl rfl (Or.inl rfl) hi7 ?_
      exact g_reti rfl rfl H
    · replace H := H.2 hc
      refine g_s (pc' := 49) rfl ?_
      refine g_getf (pc' := 52) (v := .ref 1073) rfl rfl rfl rfl rfl ?_
      refine g_s (pc' := 53) rfl ?_
      obtain ⟨hi8, H⟩ := H
      refine g_iald (pc' := 54) rfl rfl rfl rfl rfl (Or.inl rfl) hi8 ?_
      exact g_reti rfl rfl H
set_option maxHeartbeats 4000000 in
theorem B_X9_peek_57 {d : Nat} {w : zm} {F : Int32 → zm → Prop} (a1 : Int32) (a2 : Int32)
    (H : ((a2 < (yI w 1031 68) → (zin a2 48) ∧ (((yA w 1074 (Int32.toNatClampNeg a2)) = a1 → (zin a2 48) ∧ F (yA w 1075 (Int32.toNatClampNeg a2)) w) ∧ (¬ (yA w 1074 (Int32.toNatClampNeg a2)) = a1 → zGo (d + 1) m_X9_peek 57 [.ref 1031, .int a1, .int (a2 + 1)] [] (yz w) (zKi F)))) ∧ (¬ a2 < (yI w 1031 68) → (zin (yI w 1031 68) 48) ∧ zGo d m_X9_value 0 [.ref 1031] [] (yz (yuA w 1074 (Int32.toNatClampNeg (yI w 1031 68)) a1)) (zKi fun v5 w4 => (zin (yI w 1031 68) 48) ∧ (zin (yI w4 1031 68) 48) ∧ F (yA (yuA w4 1075 (Int32.toNatClampNeg (yI w 1031 68)) v5) 1075 (Int32.toNatClampNeg (yI w4 1031 68))) (yuI (yuI (yuA w4 1075 (Int32.toNatClampNeg (yI w 1031 68)) v5) 1031 52 ((yI w4 1031 52) + (1 : Int32))) 1031 68 ((yI w4 1031 68) + (1 : Int32))))))) :
    zGo (d + 1) m_X9_peek 57 [.ref 1031, .int a1, .int a2] [] (yz w) (zKi F) := by
  refine g_s (pc' := 58) rfl ?_
  refine g_s (pc' := 59) rfl ?_
  refine g_getf (pc' := 62) (v := .int (yI w 1031 68)) rfl rfl rfl rfl rfl ?_
  refine g_icge (pc' := 65) rfl rfl (fun hc => ?_) (fun hc => ?_)
  · replace H := H.1 hc
    refine g_s (pc' := 66) rfl ?_
    refine g_getf (pc' := 69) (v := .ref 1074) rfl rfl rfl rfl rfl ?_
    refine g_s (pc' := 70) rfl ?_
    obtain ⟨hi1, H⟩ := H
    refine g_iald (pc' := 71) rfl rfl rfl rfl rfl (Or.inl rfl) hi1 ?_
    refine g_s (pc' := 72) rfl ?_
    refine g_icne (pc' := 75) rfl rfl (fun hc => ?_) (fun hc => ?_)
    · replace H := H.1 hc
      refine g_s (pc' := 76) rfl ?_
      refine g_getf (pc' := 79) (v := .ref 1075) rfl rfl rfl rfl rfl ?_
      refine g_s (pc' := 80) rfl ?_
      obtain ⟨hi2, H⟩ := H
      refine g_iald (pc' := 81) rfl rfl rfl rfl rfl (Or.inl rfl) hi2 ?_
      exact g_reti rfl rfl H
    · replace H := H.2 hc
      refine g_inc (pc' := 85) (ls' := [.ref 1031, .int a1, .int (a2 + 1)]) rfl rfl rfl kc_i1 (zst1_of rfl (Or.inr rfl) rfl) ?_
      refine g_s (pc' := 57) rfl ?_
      exact H
  · replace H := H.2 hc
    refine g_s (pc' := 89) rfl ?_
    refine g_getf (pc' := 92) (v := .ref 1074) rfl rfl rfl rfl rfl ?_
    refine g_s (pc' := 93) rfl ?_
    refine g_getf (pc' := 96) (v := .int (yI w 1031 68)) rfl rfl rfl rfl rfl ?_
    refine g_s (pc' := 97) rfl ?_
    obtain ⟨hi3, H⟩ := H
    refine g_iast (pc' := 98) rfl rfl rfl rfl rfl rfl hi3 ?_
    refine g_s (pc' := 99) rfl ?_
    refine g_getf (pc' := 102) (v := .ref 1075) rfl rfl rfl rfl rfl ?_
    refine g_s (pc' := 103) rfl ?_
    refine g_getf (pc' := 106) (v := .int (yI w 1031 68)) rfl rfl rfl rfl rfl ?_
    refine g_s (pc' := 107) rfl ?_
    refine g_calli (a := m_X9_value) (as := [.ref 1031]) (rest := [.int (yI w 1031 68), .ref 1075]) (ls0 := [.ref 1031]) (pc' := 110) (t_virt rfl rfl rfl rfl rfl rfl) rfl rfl rfl ?_
    refine zGo.mono H (zKi_mono ?_)
    intro v5 w4 H
    obtain ⟨hi6, H⟩ := H
    refine g_iast (pc' := 111) rfl rfl rfl rfl rfl rfl hi6 ?_
    refine g_s (pc' := 112) rfl ?_
    refine g_s (pc' := 113) rfl ?_
    refine g_getf (pc' := 116) (v := .int (yI w4 1031 52)) rfl rfl rfl rfl rfl ?_
    refine g_psh (pc' := 117) (v' := .int 1) rfl (congrArg Value.int kc_i1) ?_
    refine g_s (pc' := 118) (st' := [.int ((yI w4 1031 52) + (1 : Int32)), .ref 1031]) rfl ?_
    refine g_putI (pc' := 121) rfl rfl rfl rfl rfl rfl (fun _ => rfl) ?_
    refine g_s (pc' := 122) rfl ?_
    refine g_getf (pc' := 125) (v := .ref 1075) rfl rfl rfl rfl rfl ?_
    refine g_s (pc' := 126) rfl ?_
    refine g_s (pc' := 127) rfl ?_
    refine g_getf (pc' := 130) (v := .int (yI w4 1031 68)) rfl rfl rfl rfl rfl ?_
    refine g_s (pc' := 131) rfl ?_
    refine g_psh (pc' := 132) (v' := .int 1) rfl (congrArg Value.int kc_i1) ?_
    refine g_s (pc' := 133) (st' := [.int ((yI w4 1031 68) + (1 : Int32)), .ref 1031, .int (yI w4 1031 68), .ref 1075]) rfl ?_
    refine g_putI (pc' := 136) rfl rfl rfl rfl rfl rfl (fun _ => rfl) ?_
    obtain ⟨hi7, H⟩ := H
    refine g_iald (pc' := 137) rfl rfl rfl rfl rfl (Or.inl rfl) hi7 ?_
    exact g_reti rfl rfl H
set_option maxHeartbeats 4000000 in
theorem B_X9_place_0 {d : Nat} {w : zm} {F : Int32 → zm → Prop} 
    (H : F (yI w 1031 5) (yuI w 1031 1 (0 : Int32))) :
    zGo d m_X9_place 0 [.ref 1031] [] (yz w) (zKi F) := by
  refine g_s (pc' := 1) rfl ?_
  refine g_psh (pc' := 2) (v' := .int 0) rfl (congrArg Value.int kc_i0) ?_
  refine g_putI (pc' := 5) rfl rfl rfl rfl rfl rfl (fun _ => rfl) ?_
  refine g_s (pc' := 6) rfl ?_
  refine g_getf (pc' := 9) (v := .int (yI w 1031 5)) rfl rfl rfl rfl rfl ?_
  exact g_reti rfl rfl H
set_option maxHeartbeats 4000000 in
theorem B_X9_plainStep_0 {d : Nat} {w : zm} {F : zm → Prop} 
    (H : (((yI w 1031 42) < 0 → zGo (d + 1) m_X9_plainStep 27 [.ref 1031, zJ, zJ, zJ] [] (yz (yuI w 1031 19 (0 : Int32))) (zKv F)) ∧ (¬ (yI w 1031 42) < 0 → zGo d m_X9_op 0 [.ref 1031, .int (yI w 1031 6)] [] (yz (yuI w 1031 19 (0 : Int32))) (zKi fun v2 w1 => ((v2 = 0 → zGo d m_X9_cutOff 0 [.ref 1031] [] (yz w1) (zKv fun w3 => zGo (d + 1) m_X9_plainStep 27 [.ref 1031, zJ, zJ, zJ] [] (yz w3) (zKv F))) ∧ (¬ v2 = 0 → zGo (d + 1) m_X9_plainStep 27 [.ref 1031, zJ, zJ, zJ] [] (yz w1) (zKv F))))))) :
    zGo (d + 1) m_X9_plainStep 0 [.ref 1031, zJ, zJ, zJ] [] (yz w) (zKv F) := by
  refine g_s (pc' := 1) rfl ?_
  refine g_psh (pc' := 2) (v' := .int 0) rfl (congrArg Value.int kc_i0) ?_
  refine g_putI (pc' := 5) rfl rfl rfl rfl rfl (zfitb _ (Or.inl rfl)) (fun _ => rfl) ?_
  refine g_s (pc' := 6) rfl ?_
  refine g_getf (pc' := 9) (v := .int (yI w 1031 42)) rfl rfl rfl rfl rfl ?_
  refine g_iflt (pc' := 12) rfl rfl (fun hc => ?_) (fun hc => ?_)
  · replace H := H.1 hc
    exact H
  · replace H := H.2 hc
    refine g_s (pc' := 13) rfl ?_
    refine g_s (pc' := 14) rfl ?_
    refine g_getf (pc' := 17) (v := .int (yI w 1031 6)) rfl rfl rfl rfl rfl ?_
    refine g_calli (a := m_X9_op) (as := [.ref 1031, .int (yI w 1031 6)]) (rest := []) (ls0 := [.ref 1031, .int (yI w 1031 6)]) (pc' := 20) (t_virt rfl rfl rfl rfl rfl rfl) rfl rfl rfl ?_
    refine zGo.mono H (zKi_mono ?_)
    intro v2 w1 H
    refine g_ifne (pc' := 23) rfl rfl (fun hc => ?_) (fun hc => ?_)
    · replace H := H.1 hc
      refine g_s (pc' := 24) rfl ?_
      refine g_callv (a := m_X9_cutOff) (as := [.ref 1031]) (rest := []) (ls0 := [.ref 1031]) (pc' := 27) (t_virt rfl rfl rfl rfl rfl rfl) rfl rfl rfl ?_
      refine zGo.mono H (zKv_mono ?_)
      intro w3 H
      exact H
    · replace H := H.2 hc
      exact H
set_option maxHeartbeats 4000000 in
theorem B_X9_plainStep_27 {d : Nat} {w : zm} {F : zm → Prop} 
    (H : zGo d m_X9_breaks 0 [.ref 1031] [] (yz w) (zKi fun v2 w1 => ((v2 = 0 → zGo d m_X9_choice 0 [.ref 1031, zJ] [] (yz w1) (zKi fun v4 w3 => zGo d m_X9_act 0 [.ref 1031, zJ, zJ, zJ] [] (yz w3) (zKv fun w5 => zGo d m_X9_op 0 [.ref 1031, .int (yI w1 1031 6)] [] (yz w5) (zKi fun v7 w6 => ((v7 = 0 → F (yuI w6 1031 2 (3 : Int32))) ∧ (¬ v7 = 0 → (((yI w6 1031 42) < 0 → zGo (d + 1) m_X9_plainStep 116 [.ref 1031, .int (yI w1 1031 6), .int v4, zJ] [] (yz w6) (zKv F)) ∧ (¬ (yI w6 1031 42) < 0 → (zin (yI w6 1031 46) 48) ∧ (zin (yI w6 1031 46) 48) ∧ zGo (d + 1) m_X9_plainStep 116 [.ref 1031, .int (yI w1 1031 6), .int v4, zJ] [] (yz (yuI (yuA (yuA w6 1059 (Int32.toNatClampNeg (yI w6 1031 46)) (yI w1 1031 6)) 1060 (Int32.toNatClampNeg (yI w6 1031 46)) v4) 1031 46 ((yI w6 1031 46) + (1 : Int32)))) (zKv F))))))))) ∧ (¬ v2 = 0 → (((yI w1 1031 42) < 0 → F (yuI w1 1031 2 (4 : Int32))) ∧ (¬ (yI w1 1031 42) < 0 → zGo d m_X9_cutOff 0 [.ref 1031] [] (yz w1) (zKv fun w10 => F (yuI w10 1031 2 (4 : Int32))))))))) :
    zGo (d + 1) m_X9_plainStep 27 [.ref 1031, zJ, zJ, zJ] [] (yz w) (zKv F) := by
  refine g_s (pc' := 28) rfl ?_
  refine g_calli (a := m_X9_breaks) (as := [.ref 1031]) (rest := []) (ls0 := [.ref 1031]) (pc' := 31) (t_virt rfl rfl rfl rfl rfl rfl) rfl rfl rfl ?_
  refine zGo.mono H (zKi_mono ?_)
  intro v2 w1 H
  refine g_ifeq (pc' := 34) rfl rfl (fun hc => ?_) (fun hc => ?_)
  · replace H := H.1 hc
    refine g_s (pc' := 52) rfl ?_
    refine g_getf (pc' := 55) (v := .int (yI w1 1031 6)) rfl rfl rfl rfl rfl ?_
    refine g_ist (k := 1) (pc' := 56) (ls' := [.ref 1031, .int (yI w1 1031 6), zJ, zJ]) rfl rfl rfl rfl (zst1_of rfl (Or.inr rfl) rfl) ?_
    refine g_s (pc' := 57) rfl ?_
    refine g_calli (a := m_X9_choice) (as := [.ref 1031]) (rest := []) (ls0 := [.ref 1031, zJ]) (pc' := 60) (t_virt rfl rfl rfl rfl rfl rfl) rfl rfl rfl ?_
    refine zGo.mono H (zKi_mono ?_)
    intro v4 w3 H
    refine g_ist (k := 2) (pc' := 61) (ls' := [.ref 1031, .int (yI w1 1031 6), .int v4, zJ]) rfl rfl rfl rfl (zst1_of rfl (Or.inr rfl) rfl) ?_
    refine g_s (pc' := 62) rfl ?_
    refine g_callv (a := m_X9_act) (as := [.ref 1031]) (rest := []) (ls0 := [.ref 1031, zJ, zJ, zJ]) (pc' := 65) (t_virt rfl rfl rfl rfl rfl rfl) rfl rfl rfl ?_
    refine zGo.mono H (zKv_mono ?_)
    intro w5 H
    refine g_s (pc' := 66) rfl ?_
    refine g_s (pc' := 67) rfl ?_
    refine g_calli (a := m_X9_op) (as := [.ref 1031, .int (yI w1 1031 6)]) (rest := []) (ls0 := [.ref 1031, .int (yI w1 1031 6)]) (pc' := 70) (t_virt rfl rfl rfl rfl rfl rfl) rfl rfl rfl ?_
    refine zGo.mono H (zKi_mono ?_)
    intro v7 w6 H
    refine g_ifne (pc' := 73) rfl rfl (fun hc => ?_) (fun hc => ?_)
    · replace H := H.1 hc
      refine g_s (pc' := 74) rfl ?_
      refine g_psh (pc' := 75) (v' := .int 3) rfl (congrArg Value.int kc_i3) ?_
      refine g_putI (pc' := 78) rfl rfl rfl rfl rfl rfl (fun _ => rfl) ?_
      exact g_retv rfl rfl H
    · replace H := H.2 hc
      refine g_s (pc' := 80) rfl ?_
      refine g_getf (pc' := 83) (v := .int (yI w6 1031 42)) rfl rfl rfl rfl rfl ?_
      refine g_iflt (pc' := 86) rfl rfl (fun hc => ?_) (fun hc => ?_)
      · replace H := H.1 hc
        exact H
      · replace H := H.2 hc
        refine g_s (pc' := 87) rfl ?_
        refine g_getf (pc' := 90) (v := .ref 1059) rfl rfl rfl rfl rfl ?_
        refine g_s (pc' := 91) rfl ?_
        refine g_getf (pc' := 94) (v := .int (yI w6 1031 46)) rfl rfl rfl rfl rfl ?_
        refine g_s (pc' := 95) rfl ?_
        obtain ⟨hi8, H⟩ := H
        refine g_iast (pc' := 96) rfl rfl rfl rfl rfl rfl hi8 ?_
        refine g_s (pc' := 97) rfl ?_
        refine g_getf (pc' := 100) (v := .ref 1060) rfl rfl rfl rfl rfl ?_
        refine g_s (pc' := 101) rfl ?_
        refine g_getf (pc' := 104) (v := .int (yI w6 1031 46)) rfl rfl rfl rfl rfl ?_
        refine g_s (pc' := 105) rfl ?_
        obtain ⟨hi9, H⟩ := H
        refine g_iast (pc' := 106) rfl rfl rfl rfl rfl rfl hi9 ?_
        refine g_s (pc' := 107) rfl ?_
        refine g_s (pc' := 108) rfl ?_
        refine g_getf (pc' := 111) (v := .int (yI w6 1031 46)) rfl rfl rfl rfl rfl ?_
        refine g_psh (pc' := 112) (v' := .int 1) rfl (congrArg Value.int kc_i1) ?_
        refine g_s (pc' := 113) (st' := [.int ((yI w6 1031 46) + (1 : Int32)), .ref 1031]) rfl ?_
        refine g_putI (pc' := 116) rfl rfl rfl rfl rfl rfl (fun _ => rfl) ?_
        exact H
  · replace H := H.2 hc
    refine g_s (pc' := 35) rfl ?_
    refine g_getf (pc' := 38) (v := .int (yI w1 1031 42)) rfl rfl rfl rfl rfl ?_
    refine g_iflt (pc' := 41) rfl rfl (fun hc => ?_) (fun hc => ?_)
    · replace H := H.1 hc
      refine g_s (pc' := 46) rfl ?_
      refine g_psh (pc' := 47) (v' := .int 4) rfl (congrArg Value.int kc_i4) ?_
      refine g_putI (pc' := 50) rfl rfl rfl rfl rfl rfl (fun _ => rfl) ?_
      exact g_retv rfl rfl H
    · replace H := H.2 hc
      refine g_s (pc' := 42) rfl ?_
      refine g_callv (a := m_X9_cutOff) (as := [.ref 1031]) (rest := []) (ls0 := [.ref 1031]) (pc' := 45) (t_virt rfl rfl rfl rfl rfl rfl) rfl rfl rfl ?_
      refine zGo.mono H (zKv_mono ?_)
      intro w10 H
      refine g_s (pc' := 46) rfl ?_
      refine g_psh (pc' := 47) (v' := .int 4) rfl (congrArg Value.int kc_i4) ?_
      refine g_putI (pc' := 50) rfl rfl rfl rfl rfl rfl (fun _ => rfl) ?_
      exact g_retv rfl rfl H
set_option maxHeartbeats 4000000 in
theorem B_X9_plainStep_116 {d : Nat} {w : zm} {F : zm → Prop} (a1 : Int32) (a2 : Int32)
    (H : zGo d m_X9_op 0 [.ref 1031, .int a1] [] (yz w) (zKi fun v2 w1 => zGo d m_X9_jumps 0 [.int v2] [] (yz w1) (zKi fun v4 w3 => ((v4 = 0 → zGo (d + 1) m_X9_plainStep 162 [.ref 1031, .int a1, .int a2, zJ] [.int (0 : Int32)] (yz w3) (zKv F)) ∧ (¬ v4 = 0 → ((a1 < (yI w3 1031 6) → zGo (d + 1) m_X9_plainStep 162 [.ref 1031, .int a1, .int a2, zJ] [.int (0 : Int32)] (yz w3) (zKv F)) ∧ (¬ a1 < (yI w3 1031 6) → zGo d m_X9_op 0 [.ref 1031, .int a1] [] (yz w3) (zKi fun v6 w5 => ((v6 = (21 : Int32) → zGo (d + 1) m_X9_plainStep 162 [.ref 1031, .int a1, .int a2, zJ] [.int (1 : Int32)] (yz w5) (zKv F)) ∧ (¬ v6 = (21 : Int32) → zGo d m_X9_argument 0 [.ref 1031, .int a1] [] (yz w5) (zKi fun v8 w7 => ((v8 = (yI w7 1031 6) → zGo (d + 1) m_X9_plainStep 162 [.ref 1031, .int a1, .int a2, zJ] [.int (1 : Int32)] (yz w7) (zKv F)) ∧ (¬ v8 = (yI w7 1031 6) → zGo (d + 1) m_X9_plainStep 162 [.ref 1031, .int a1, .int a2, zJ] [.int (0 : Int32)] (yz w7) (zKv F)))))))))))))) :
    zGo (d + 1) m_X9_plainStep 116 [.ref 1031, .int a1, .int a2, zJ] [] (yz w) (zKv F) := by
  refine g_s (pc' := 117) rfl ?_
  refine g_s (pc' := 118) rfl ?_
  refine g_calli (a := m_X9_op) (as := [.ref 1031, .int a1]) (rest := []) (ls0 := [.ref 1031, .int a1]) (pc' := 121) (t_virt rfl rfl rfl rfl rfl rfl) rfl rfl rfl ?_
  refine zGo.mono H (zKi_mono ?_)
  intro v2 w1 H
  refine g_calli (a := m_X9_jumps) (as := [.int v2]) (rest := []) (ls0 := [.int v2]) (pc' := 124) (t_stat rfl (Or.inl rfl) rfl rfl rfl rfl) rfl rfl rfl ?_
  refine zGo.mono H (zKi_mono ?_)
  intro v4 w3 H
  refine g_ifeq (pc' := 127) rfl rfl (fun hc => ?_) (fun hc => ?_)
  · replace H := H.1 hc
    refine g_psh (pc' := 162) (v' := .int 0) rfl (congrArg Value.int kc_i0) ?_
    exact H
  · replace H := H.2 hc
    refine g_s (pc' := 128) rfl ?_
    refine g_getf (pc' := 131) (v := .int (yI w3 1031 6)) rfl rfl rfl rfl rfl ?_
    refine g_s (pc' := 132) rfl ?_
    refine g_icgt (pc' := 135) rfl rfl (fun hc => ?_) (fun hc => ?_)
    · replace H := H.1 hc
      refine g_psh (pc' := 162) (v' := .int 0) rfl (congrArg Value.int kc_i0) ?_
      exact H
    · replace H := H.2 hc
      refine g_s (pc' := 136) rfl ?_
      refine g_s (pc' := 137) rfl ?_
      refine g_calli (a := m_X9_op) (as := [.ref 1031, .int a1]) (rest := []) (ls0 := [.ref 1031, .int a1]) (pc' := 140) (t_virt rfl rfl rfl rfl rfl rfl) rfl rfl rfl ?_
      refine zGo.mono H (zKi_mono ?_)
      intro v6 w5 H
      refine g_psh (pc' := 142) (v' := .int 21) rfl (congrArg Value.int kc_b21) ?_
      refine g_iceq (pc' := 145) rfl rfl (fun hc => ?_) (fun hc => ?_)
      · replace H := H.1 hc
        refine g_psh (pc' := 158) (v' := .int 1) rfl (congrArg Value.int kc_i1) ?_
        refine g_s (pc' := 162) rfl ?_
        exact H
      · replace H := H.2 hc
        refine g_s (pc' := 146) rfl ?_
        refine g_s (pc' := 147) rfl ?_
        refine g_calli (a := m_X9_argument) (as := [.ref 1031, .int a1]) (rest := []) (ls0 := [.ref 1031, .int a1]) (pc' := 150) (t_virt rfl rfl rfl rfl rfl rfl) rfl rfl rfl ?_
        refine zGo.mono H (zKi_mono ?_)
        intro v8 w7 H
        refine g_s (pc' := 151) rfl ?_
        refine g_getf (pc' := 154) (v := .int (yI w7 1031 6)) rfl rfl rfl rfl rfl ?_
        refine g_icne (pc' := 157) rfl rfl (fun hc => ?_) (fun hc => ?_)
        · replace H := H.1 hc
          refine g_psh (pc' := 158) (v' := .int 1) rfl (congrArg Value.int kc_i1) ?_
          refine g_s (pc' := 162) rfl ?_
          exact H
        · replace H := H.2 hc
          refine g_psh (pc' := 162) (v' := .int 0) rfl (congrArg Value.int kc_i0) ?_
          exact H
set_option maxHeartbeats 4000000 in
theorem B_X9_plainStep_162 {d : Nat} {w : zm} {F : zm → Prop} (a1 : Int32) (a2 : Int32) (s0 : Int32)
    (H : ((s0 = 0 → zGo (d + 1) m_X9_plainStep 180 [.ref 1031, .int a1, .int a2, .int s0] [] (yz w) (zKv F)) ∧ (¬ s0 = 0 → (zin (yI w 1031 6) 200) ∧ (zin (yI w 1031 6) 200) ∧ zGo (d + 1) m_X9_plainStep 180 [.ref 1031, .int a1, .int a2, .int s0] [] (yz (yuA w 1037 (Int32.toNatClampNeg (yI w 1031 6)) ((yA w 1037 (Int32.toNatClampNeg (yI w 1031 6))) + (1 : Int32)))) (zKv F)))) :
    zGo (d + 1) m_X9_plainStep 162 [.ref 1031, .int a1, .int a2, zJ] [.int s0] (yz w) (zKv F) := by
  refine g_ist (k := 3) (pc' := 163) (ls' := [.ref 1031, .int a1, .int a2, .int s0]) rfl rfl rfl rfl (zst1_of rfl (Or.inr rfl) rfl) ?_
  refine g_s (pc' := 164) rfl ?_
  refine g_ifeq (pc' := 167) rfl rfl (fun hc => ?_) (fun hc => ?_)
  · replace H := H.1 hc
    exact H
  · replace H := H.2 hc
    refine g_s (pc' := 168) rfl ?_
    refine g_getf (pc' := 171) (v := .ref 1037) rfl rfl rfl rfl rfl ?_
    refine g_s (pc' := 172) rfl ?_
    refine g_getf (pc' := 175) (v := .int (yI w 1031 6)) rfl rfl rfl rfl rfl ?_
    refine g_s (pc' := 176) rfl ?_
    obtain ⟨hi1, H⟩ := H
    refine g_iald (pc' := 177) rfl rfl rfl rfl rfl (Or.inl rfl) hi1 ?_
    refine g_psh (pc' := 178) (v' := .int 1) rfl (congrArg Value.int kc_i1) ?_
    refine g_s (pc' := 179) (st' := [.int ((yA w 1037 (Int32.toNatClampNeg (yI w 1031 6))) + (1 : Int32)), .int (yI w 1031 6), .ref 1037]) rfl ?_
    obtain ⟨hi2, H⟩ := H
    refine g_iast (pc' := 180) rfl rfl rfl rfl rfl rfl hi2 ?_
    exact H
set_option maxHeartbeats 4000000 in
theorem B_X9_plainStep_180 {d : Nat} {w : zm} {F : zm → Prop} (a1 : Int32) (a2 : Int32) (a3 : Int32)
    (H : (((yI w 1031 42) < 0 → zGo (d + 1) m_X9_plainStep 205 [.ref 1031, .int a1, .int a2, .int a3] [] (yz w) (zKv F)) ∧ (¬ (yI w 1031 42) < 0 → (((yI w 1031 6) = (yI w 1031 42) → zGo d m_X9_finish 0 [.ref 1031, zJ, zJ, zJ] [] (yz w) (zKv fun w1 => F w1)) ∧ (¬ (yI w 1031 6) = (yI w 1031 42) → zGo (d + 1) m_X9_plainStep 205 [.ref 1031, .int a1, .int a2, .int a3] [] (yz w) (zKv F)))))) :
    zGo (d + 1) m_X9_plainStep 180 [.ref 1031, .int a1, .int a2, .int a3] [] (yz w) (zKv F) := by
  refine g_s (pc' := 181) rfl ?_
  refine g_getf (pc' := 184) (v := .int (yI w 1031 42)) rfl rfl rfl rfl rfl ?_
  refine g_iflt (pc' := 187) rfl rfl (fun hc => ?_) (fun hc => ?_)
  · replace H := H.1 hc
    exact H
  · replace H := H.2 hc
    refine g_s (pc' := 188) rfl ?_
    refine g_getf (pc' := 191) (v := .int (yI w 1031 6)) rfl rfl rfl rfl rfl ?_
    refine g_s (pc' := 192) rfl ?_
    refine g_getf (pc' := 195) (v := .int (yI w 1031 42)) rfl rfl rfl rfl rfl ?_
    refine g_icne (pc' := 198) rfl rfl (fun hc => ?_) (fun hc => ?_)
    · replace H := H.1 hc
      refine g_s (pc' := 199) rfl ?_
      refine g_callv (a := m_X9_finish) (as := [.ref 1031]) (rest := []) (ls0 := [.ref 1031, zJ, zJ, zJ]) (pc' := 202) (t_virt rfl rfl rfl rfl rfl rfl) rfl rfl rfl ?_
      refine zGo.mono H (zKv_mono ?_)
      intro w1 H
      refine g_s (pc' := 275) rfl ?_
      exact g_retv rfl rfl H
    · replace H := H.2 hc
      exact H
set_option maxHeartbeats 4000000 in
theorem B_X9_plainStep_205 {d : Nat} {w : zm} {F : zm → Prop} (a1 : Int32) (a2 : Int32) (a3 : Int32)
    (H : ((a3 = 0 → F w) ∧ (¬ a3 = 0 → (zin (yI w 1031 6) 200) ∧ (((yA w 1037 (Int32.toNatClampNeg (yI w 1031 6))) < (yI w 1031 0) → F w) ∧ (¬ (yA w 1037 (Int32.toNatClampNeg (yI w 1031 6))) < (yI w 1031 0) → (((yI w 1031 42) < 0 → zGo d m_X9_traceOf 0 [.ref 1031, .int (yI w 1031 6), zJ] [] (yz w) (zKi fun v3 w2 => ((v3 < 0 → (zin (yI w2 1031 6) 200) ∧ (((yA w2 1038 (Int32.toNatClampNeg (yI w2 1031 6))) < (3 : Int32) → zGo d m_X9_traceMany 0 [.ref 1031, zJ, zJ] [] (yz w2) (zKi fun v6 w5 => ((v6 < (16 : Int32) → zGo d m_X9_begin 0 [.ref 1031, .int (yI w5 1031 6), .int (-1 : Int32), .int (-1 : Int32)] [] (yz w5) (zKv fun w7 => F w7)) ∧ (¬ v6 < (16 : Int32) → F w5)))) ∧ (¬ (yA w2 1038 (Int32.toNatClampNeg (yI w2 1031 6))) < (3 : Int32) → F w2))) ∧ (¬ v3 < 0 → F w2)))) ∧ (¬ (yI w 1031 42) < 0 → F w))))))) :
    zGo (d + 1) m_X9_plainStep 205 [.ref 1031, .int a1, .int a2, .int a3] [] (yz w) (zKv F) := by
  refine g_s (pc' := 206) rfl ?_
  refine g_ifeq (pc' := 209) rfl rfl (fun hc => ?_) (fun hc => ?_)
  · replace H := H.1 hc
    exact g_retv rfl rfl H
  · replace H := H.2 hc
    refine g_s (pc' := 210) rfl ?_
    refine g_getf (pc' := 213) (v := .ref 1037) rfl rfl rfl rfl rfl ?_
    refine g_s (pc' := 214) rfl ?_
    refine g_getf (pc' := 217) (v := .int (yI w 1031 6)) rfl rfl rfl rfl rfl ?_
    obtain ⟨hi1, H⟩ := H
    refine g_iald (pc' := 218) rfl rfl rfl rfl rfl (Or.inl rfl) hi1 ?_
    refine g_s (pc' := 219) rfl ?_
    refine g_getf (pc' := 222) (v := .int (yI w 1031 0)) rfl rfl rfl rfl rfl ?_
    refine g_iclt (pc' := 225) rfl rfl (fun hc => ?_) (fun hc => ?_)
    · replace H := H.1 hc
      exact g_retv rfl rfl H
    · replace H := H.2 hc
      refine g_s (pc' := 226) rfl ?_
      refine g_getf (pc' := 229) (v := .int (yI w 1031 42)) rfl rfl rfl rfl rfl ?_
      refine g_ifge (pc' := 232) rfl rfl (fun hc => ?_) (fun hc => ?_)
      · replace H := H.1 hc
        refine g_s (pc' := 233) rfl ?_
        refine g_s (pc' := 234) rfl ?_
        refine g_getf (pc' := 237) (v := .int (yI w 1031 6)) rfl rfl rfl rfl rfl ?_
        refine g_calli (a := m_X9_traceOf) (as := [.ref 1031, .int (yI w 1031 6)]) (rest := []) (ls0 := [.ref 1031, .int (yI w 1031 6), zJ]) (pc' := 240) (t_virt rfl rfl rfl rfl rfl rfl) rfl rfl rfl ?_
        refine zGo.mono H (zKi_mono ?_)
        intro v3 w2 H
        refine g_ifge (pc' := 243) rfl rfl (fun hc => ?_) (fun hc => ?_)
        · replace H := H.1 hc
          refine g_s (pc' := 244) rfl ?_
          refine g_getf (pc' := 247) (v := .ref 1038) rfl rfl rfl rfl rfl ?_
          refine g_s (pc' := 248) rfl ?_
          refine g_getf (pc' := 251) (v := .int (yI w2 1031 6)) rfl rfl rfl rfl rfl ?_
          obtain ⟨hi4, H⟩ := H
          refine g_iald (pc' := 252) rfl rfl rfl rfl rfl (Or.inl rfl) hi4 ?_
          refine g_psh (pc' := 253) (v' := .int 3) rfl (congrArg Value.int kc_i3) ?_
          refine g_icge (pc' := 256) rfl rfl (fun hc => ?_) (fun hc => ?_)
          · replace H := H.1 hc
            refine g_s (pc' := 257) rfl ?_
            refine g_calli (a := m_X9_traceMany) (as := [.ref 1031]) (rest := []) (ls0 := [.ref 1031, zJ, zJ]) (pc' := 260) (t_virt rfl rfl rfl rfl rfl rfl) rfl rfl rfl ?_
            refine zGo.mono H (zKi_mono ?_)
            intro v6 w5 H
            refine g_psh (pc' := 262) (v' := .int 16) rfl (congrArg Value.int kc_b16) ?_
            refine g_icge (pc' := 265) rfl rfl (fun hc => ?_) (fun hc => ?_)
            · replace H := H.1 hc
              refine g_s (pc' := 266) rfl ?_
              refine g_s (pc' := 267) rfl ?_
              refine g_getf (pc' := 270) (v := .int (yI w5 1031 6)) rfl rfl rfl rfl rfl ?_
              refine g_psh (pc' := 271) (v' := .int (-1)) rfl (congrArg Value.int kc_im1) ?_
              refine g_psh (pc' := 272) (v' := .int (-1)) rfl (congrArg Value.int kc_im1) ?_
              refine g_callv (a := m_X9_begin) (as := [.ref 1031, .int (yI w5 1031 6), .int (-1 : Int32), .int (-1 : Int32)]) (rest := []) (ls0 := [.ref 1031, .int (yI w5 1031 6), .int (-1 : Int32), .int (-1 : Int32)]) (pc' := 275) (t_virt rfl rfl rfl rfl rfl rfl) rfl rfl rfl ?_
              refine zGo.mono H (zKv_mono ?_)
              intro w7 H
              exact g_retv rfl rfl H
            · replace H := H.2 hc
              exact g_retv rfl rfl H
          · replace H := H.2 hc
            exact g_retv rfl rfl H
        · replace H := H.2 hc
          exact g_retv rfl rfl H
      · replace H := H.2 hc
        exact g_retv rfl rfl H
set_option maxHeartbeats 4000000 in
theorem B_X9_poke_0 {d : Nat} {w : zm} {F : Int32 → zm → Prop} (a1 : Int32) (a2 : Int32)
    (H : zGo d m_X9_in 0 [.int a1, .int (0 : Int32), .int (yI w 1031 3)] [] (yz w) (zKi fun v2 w1 => ((v2 = 0 → zGo (d + 1) m_X9_poke 36 [.ref 1031, .int a1, .int a2] [.int (1 : Int32), .ref 1031] (yz w1) (zKi F)) ∧ (¬ v2 = 0 → ((a1 = (200 : Int32) → zGo (d + 1) m_X9_poke 36 [.ref 1031, .int a1, .int a2] [.int (1 : Int32), .ref 1031] (yz w1) (zKi F)) ∧ (¬ a1 = (200 : Int32) → (((yI w1 1031 2) = 0 → zGo (d + 1) m_X9_poke 36 [.ref 1031, .int a1, .int a2] [.int (0 : Int32), .ref 1031] (yz w1) (zKi F)) ∧ (¬ (yI w1 1031 2) = 0 → zGo (d + 1) m_X9_poke 36 [.ref 1031, .int a1, .int a2] [.int (2 : Int32), .ref 1031] (yz w1) (zKi F))))))))) :
    zGo (d + 1) m_X9_poke 0 [.ref 1031, .int a1, .int a2] [] (yz w) (zKi F) := by
  refine g_s (pc' := 1) rfl ?_
  refine g_s (pc' := 2) rfl ?_
  refine g_psh (pc' := 3) (v' := .int 0) rfl (congrArg Value.int kc_i0) ?_
  refine g_s (pc' := 4) rfl ?_
  refine g_getf (pc' := 7) (v := .int (yI w 1031 3)) rfl rfl rfl rfl rfl ?_
  refine g_calli (a := m_X9_in) (as := [.int a1, .int (0 : Int32), .int (yI w 1031 3)]) (rest := [.ref 1031]) (ls0 := [.int a1, .int (0 : Int32), .int (yI w 1031 3)]) (pc' := 10) (t_stat rfl (Or.inl rfl) rfl rfl rfl rfl) rfl rfl rfl ?_
  refine zGo.mono H (zKi_mono ?_)
  intro v2 w1 H
  refine g_ifeq (pc' := 13) rfl rfl (fun hc => ?_) (fun hc => ?_)
  · replace H := H.1 hc
    refine g_psh (pc' := 21) (v' := .int 1) rfl (congrArg Value.int kc_i1) ?_
    refine g_s (pc' := 36) rfl ?_
    exact H
  · replace H := H.2 hc
    refine g_s (pc' := 14) rfl ?_
    refine g_psh (pc' := 17) (v' := .int 200) rfl (congrArg Value.int kc_s200) ?_
    refine g_icne (pc' := 20) rfl rfl (fun hc => ?_) (fun hc => ?_)
    · replace H := H.1 hc
      refine g_psh (pc' := 21) (v' := .int 1) rfl (congrArg Value.int kc_i1) ?_
      refine g_s (pc' := 36) rfl ?_
      exact H
    · replace H := H.2 hc
      refine g_s (pc' := 25) rfl ?_
      refine g_getf (pc' := 28) (v := .int (yI w1 1031 2)) rfl rfl rfl rfl rfl ?_
      refine g_ifeq (pc' := 31) rfl rfl (fun hc => ?_) (fun hc => ?_)
      · replace H := H.1 hc
        refine g_psh (pc' := 36) (v' := .int 0) rfl (congrArg Value.int kc_i0) ?_
        exact H
      · replace H := H.2 hc
        refine g_psh (pc' := 32) (v' := .int 2) rfl (congrArg Value.int kc_i2) ?_
        refine g_s (pc' := 36) rfl ?_
        exact H
set_option maxHeartbeats 4000000 in
theorem B_X9_poke_36 {d : Nat} {w : zm} {F : Int32 → zm → Prop} (a1 : Int32) (a2 : Int32) (s0 : Int32)
    (H : ((0 < s0 → F (0 : Int32) (yuI w 1031 1 s0)) ∧ (¬ 0 < s0 → (zin a1 200) ∧ ((a1 = (yI w 1031 3) → F ((yI w 1031 3) + (1 : Int32)) (yuI (yuA (yuI w 1031 1 s0) 1032 (Int32.toNatClampNeg a1) a2) 1031 3 ((yI w 1031 3) + (1 : Int32)))) ∧ (¬ a1 = (yI w 1031 3) → F (yI w 1031 3) (yuA (yuI w 1031 1 s0) 1032 (Int32.toNatClampNeg a1) a2)))))) :
    zGo (d + 1) m_X9_poke 36 [.ref 1031, .int a1, .int a2] [.int s0, .ref 1031] (yz w) (zKi F) := by
  refine g_putI (pc' := 39) rfl rfl rfl rfl rfl rfl (fun _ => rfl) ?_
  refine g_s (pc' := 40) rfl ?_
  refine g_getf (pc' := 43) (v := .int s0) rfl rfl rfl rfl rfl ?_
  refine g_ifle (pc' := 46) rfl rfl (fun hc => ?_) (fun hc => ?_)
  · replace H := H.1 hc
    refine g_psh (pc' := 47) (v' := .int 0) rfl (congrArg Value.int kc_i0) ?_
    exact g_reti rfl rfl H
  · replace H := H.2 hc
    refine g_s (pc' := 49) rfl ?_
    refine g_getf (pc' := 52) (v := .ref 1032) rfl rfl rfl rfl rfl ?_
    refine g_s (pc' := 53) rfl ?_
    refine g_s (pc' := 54) rfl ?_
    obtain ⟨hi1, H⟩ := H
    refine g_iast (pc' := 55) rfl rfl rfl rfl rfl rfl hi1 ?_
    refine g_s (pc' := 56) rfl ?_
    refine g_s (pc' := 57) rfl ?_
    refine g_getf (pc' := 60) (v := .int (yI w 1031 3)) rfl rfl rfl rfl rfl ?_
    refine g_icne (pc' := 63) rfl rfl (fun hc => ?_) (fun hc => ?_)
    · replace H := H.1 hc
      refine g_s (pc' := 64) rfl ?_
      refine g_s (pc' := 65) rfl ?_
      refine g_getf (pc' := 68) (v := .int (yI w 1031 3)) rfl rfl rfl rfl rfl ?_
      refine g_psh (pc' := 69) (v' := .int 1) rfl (congrArg Value.int kc_i1) ?_
      refine g_s (pc' := 70) (st' := [.int ((yI w 1031 3) + (1 : Int32)), .ref 1031]) rfl ?_
      refine g_putI (pc' := 73) rfl rfl rfl rfl rfl rfl (fun _ => rfl) ?_
      refine g_s (pc' := 74) rfl ?_
      refine g_getf (pc' := 77) (v := .int ((yI w 1031 3) + (1 : Int32))) rfl rfl rfl rfl rfl ?_
      exact g_reti rfl rfl H
    · replace H := H.2 hc
      refine g_s (pc' := 74) rfl ?_
      refine g_getf (pc' := 77) (v := .int (yI w 1031 3)) rfl rfl rfl rfl rfl ?_
      exact g_reti rfl rfl H
set_option maxHeartbeats 4000000 in
theorem B_X9_poked_0 {d : Nat} {w : zm} {F : zm → Prop} (a1 : Int32) (a2 : Int32)
    (H : (zin a1 400) ∧ (((yA w 1064 (Int32.toNatClampNeg a1)) = 0 → zGo d m_X9_poked 32 [.ref 1031, .int a1, .int a2, .int (0 : Int32)] [] (yz (yuI w 1031 68 (0 : Int32))) (zKv F)) ∧ (¬ (yA w 1064 (Int32.toNatClampNeg a1)) = 0 → (zin a1 400) ∧ (zin ((yA w 1065 (Int32.toNatClampNeg a1)) &&& (31 : Int32)) 32) ∧ F (yuA (yuI w 1031 68 (0 : Int32)) 1073 (Int32.toNatClampNeg ((yA w 1065 (Int32.toNatClampNeg a1)) &&& (31 : Int32))) a2)))) :
    zGo d m_X9_poked 0 [.ref 1031, .int a1, .int a2, zJ] [] (yz w) (zKv F) := by
  refine g_s (pc' := 1) rfl ?_
  refine g_psh (pc' := 2) (v' := .int 0) rfl (congrArg Value.int kc_i0) ?_
  refine g_putI (pc' := 5) rfl rfl rfl rfl rfl rfl (fun _ => rfl) ?_
  refine g_s (pc' := 6) rfl ?_
  refine g_getf (pc' := 9) (v := .ref 1064) rfl rfl rfl rfl rfl ?_
  refine g_s (pc' := 10) rfl ?_
  obtain ⟨hi1, H⟩ := H
  refine g_zald (pc' := 11) rfl rfl rfl rfl rfl hi1 ?_
  refine g_ifeq (pc' := 14) rfl rfl (fun hc => ?_) (fun hc => ?_)
  · replace H := H.1 hc
    refine g_psh (pc' := 31) (v' := .int 0) rfl (congrArg Value.int kc_i0) ?_
    refine g_ist (k := 3) (pc' := 32) (ls' := [.ref 1031, .int a1, .int a2, .int (0 : Int32)]) rfl rfl rfl rfl (zst1_of rfl (Or.inr rfl) rfl) ?_
    exact H
  · replace H := H.2 hc
    refine g_s (pc' := 15) rfl ?_
    refine g_getf (pc' := 18) (v := .ref 1073) rfl rfl rfl rfl rfl ?_
    refine g_s (pc' := 19) rfl ?_
    refine g_getf (pc' := 22) (v := .ref 1065) rfl rfl rfl rfl rfl ?_
    refine g_s (pc' := 23) rfl ?_
    obtain ⟨hi2, H⟩ := H
    refine g_iald (pc' := 24) rfl rfl rfl rfl rfl (Or.inl rfl) hi2 ?_
    refine g_psh (pc' := 26) (v' := .int 31) rfl (congrArg Value.int kc_b31) ?_
    refine g_s (pc' := 27) (st' := [.int ((yA w 1065 (Int32.toNatClampNeg a1)) &&& (31 : Int32)), .ref 1073]) rfl ?_
    refine g_s (pc' := 28) rfl ?_
    obtain ⟨hi3, H⟩ := H
    refine g_iast (pc' := 29) rfl rfl rfl rfl rfl rfl hi3 ?_
    exact g_retv rfl rfl H
set_option maxHeartbeats 4000000 in
theorem B_X9_poked_32 {d : Nat} {w : zm} {F : zm → Prop} (a1 : Int32) (a2 : Int32) (a3 : Int32)
    (H : ((a3 < (32 : Int32) → (zin a3 32) ∧ zGo d m_X9_poked 32 [.ref 1031, .int a1, .int a2, .int (a3 + 1)] [] (yz (yuA w 1073 (Int32.toNatClampNeg a3) (-1 : Int32))) (zKv F)) ∧ (¬ a3 < (32 : Int32) → F w))) :
    zGo d m_X9_poked 32 [.ref 1031, .int a1, .int a2, .int a3] [] (yz w) (zKv F) := by
  refine g_s (pc' := 33) rfl ?_
  refine g_psh (pc' := 35) (v' := .int 32) rfl (congrArg Value.int kc_b32) ?_
  refine g_icge (pc' := 38) rfl rfl (fun hc => ?_) (fun hc => ?_)
  · replace H := H.1 hc
    refine g_s (pc' := 39) rfl ?_
    refine g_getf (pc' := 42) (v := .ref 1073) rfl rfl rfl rfl rfl ?_
    refine g_s (pc' := 43) rfl ?_
    refine g_psh (pc' := 44) (v' := .int (-1)) rfl (congrArg Value.int kc_im1) ?_
    obtain ⟨hi1, H⟩ := H
    refine g_iast (pc' := 45) rfl rfl rfl rfl rfl rfl hi1 ?_
    refine g_inc (pc' := 48) (ls' := [.ref 1031, .int a1, .int a2, .int (a3 + 1)]) rfl rfl rfl kc_i1 (zst1_of rfl (Or.inr rfl) rfl) ?_
    refine g_s (pc' := 32) rfl ?_
    exact H
  · replace H := H.2 hc
    exact g_retv rfl rfl H
set_option maxHeartbeats 4000000 in
theorem B_X9_puts_0 {d : Nat} {w : zm} {F : Int32 → zm → Prop} (a0 : Int32)
    (H : ((a0 = (18 : Int32) → F (2 : Int32) w) ∧ (¬ a0 = (18 : Int32) → ((a0 = (19 : Int32) → F (2 : Int32) w) ∧ (¬ a0 = (19 : Int32) → ((a0 = (1 : Int32) → F (1 : Int32) w) ∧ (¬ a0 = (1 : Int32) → ((a0 = (2 : Int32) → F (1 : Int32) w) ∧ (¬ a0 = (2 : Int32) → ((a0 < (4 : Int32) → ((a0 = (25 : Int32) → F (1 : Int32) w) ∧ (¬ a0 = (25 : Int32) → F (0 : Int32) w))) ∧ (¬ a0 < (4 : Int32) → (((17 : Int32) < a0 → ((a0 = (25 : Int32) → F (1 : Int32) w) ∧ (¬ a0 = (25 : Int32) → F (0 : Int32) w))) ∧ (¬ (17 : Int32) < a0 → F (1 : Int32) w))))))))))))) :
    zGo d m_X9_puts 0 [.int a0] [] (yz w) (zKi F) := by
  refine g_s (pc' := 1) rfl ?_
  refine g_psh (pc' := 3) (v' := .int 18) rfl (congrArg Value.int kc_b18) ?_
  refine g_iceq (pc' := 6) rfl rfl (fun hc => ?_) (fun hc => ?_)
  · replace H := H.1 hc
    refine g_psh (pc' := 13) (v' := .int 2) rfl (congrArg Value.int kc_i2) ?_
    exact g_reti rfl rfl H
  · replace H := H.2 hc
    refine g_s (pc' := 7) rfl ?_
    refine g_psh (pc' := 9) (v' := .int 19) rfl (congrArg Value.int kc_b19) ?_
    refine g_icne (pc' := 12) rfl rfl (fun hc => ?_) (fun hc => ?_)
    · replace H := H.1 hc
      refine g_psh (pc' := 13) (v' := .int 2) rfl (congrArg Value.int kc_i2) ?_
      exact g_reti rfl rfl H
    · replace H := H.2 hc
      refine g_s (pc' := 15) rfl ?_
      refine g_psh (pc' := 16) (v' := .int 1) rfl (congrArg Value.int kc_i1) ?_
      refine g_iceq (pc' := 19) rfl rfl (fun hc => ?_) (fun hc => ?_)
      · replace H := H.1 hc
        refine g_psh (pc' := 42) (v' := .int 1) rfl (congrArg Value.int kc_i1) ?_
        refine g_s (pc' := 46) rfl ?_
        exact g_reti rfl rfl H
      · replace H := H.2 hc
        refine g_s (pc' := 20) rfl ?_
        refine g_psh (pc' := 21) (v' := .int 2) rfl (congrArg Value.int kc_i2) ?_
        refine g_iceq (pc' := 24) rfl rfl (fun hc => ?_) (fun hc => ?_)
        · replace H := H.1 hc
          refine g_psh (pc' := 42) (v' := .int 1) rfl (congrArg Value.int kc_i1) ?_
          refine g_s (pc' := 46) rfl ?_
          exact g_reti rfl rfl H
        · replace H := H.2 hc
          refine g_s (pc' := 25) rfl ?_
          refine g_psh (pc' := 26) (v' := .int 4) rfl (congrArg Value.int kc_i4) ?_
          refine g_iclt (pc' := 29) rfl rfl (fun hc => ?_) (fun hc => ?_)
          · replace H := H.1 hc
            refine g_s (pc' := 36) rfl ?_
            refine g_psh (pc' := 38) (v' := .int 25) rfl (congrArg Value.int kc_b25) ?_
            refine g_icne (pc' := 41) rfl rfl (fun hc => ?_) (fun hc => ?_)
            · replace H := H.1 hc
              refine g_psh (pc' := 42) (v' := .int 1) rfl (congrArg Value.int kc_i1) ?_
              refine g_s (pc' := 46) rfl ?_
              exact g_reti rfl rfl H
            · replace H := H.2 hc
              refine g_psh (pc' := 46) (v' := .int 0) rfl (congrArg Value.int kc_i0) ?_
              exact g_reti rfl rfl H
          · replace H := H.2 hc
            refine g_s (pc' := 30) rfl ?_
            refine g_psh (pc' := 32) (v' := .int 17) rfl (congrArg Value.int kc_b17) ?_
            refine g_icle (pc' := 35) rfl rfl (fun hc => ?_) (fun hc => ?_)
            · replace H := H.1 hc
              refine g_s (pc' := 36) rfl ?_
              refine g_psh (pc' := 38) (v' := .int 25) rfl (congrArg Value.int kc_b25) ?_
              refine g_icne (pc' := 41) rfl rfl (fun hc => ?_) (fun hc => ?_)
              · replace H := H.1 hc
                refine g_psh (pc' := 42) (v' := .int 1) rfl (congrArg Value.int kc_i1) ?_
                refine g_s (pc' := 46) rfl ?_
                exact g_reti rfl rfl H
              · replace H := H.2 hc
                refine g_psh (pc' := 46) (v' := .int 0) rfl (congrArg Value.int kc_i0) ?_
                exact g_reti rfl rfl H
            · replace H := H.2 hc
              refine g_psh (pc' := 42) (v' := .int 1) rfl (congrArg Value.int kc_i1) ?_
              refine g_s (pc' := 46) rfl ?_
              exact g_reti rfl rfl H
set_option maxHeartbeats 4000000 in
theorem B_X9_reckon_0 {d : Nat} {w : zm} {F : Int32 → zm → Prop} (a0 : Int32) (a1 : Int32) (a2 : Int32)
    (H : (((a0.toInt < 4 ∨ 16 < a0.toInt) → ((a1 = 0 → F (1 : Int32) w) ∧ (¬ a1 = 0 → F (0 : Int32) w))) ∧ ((a0.toInt = 4) → F (a1 + a2) w) ∧ ((a0.toInt = 5) → F (a1 - a2) w) ∧ ((a0.toInt = 6) → F (a1 * a2) w) ∧ ((a0.toInt = 7) → (¬ a2 = 0) ∧ F (a1 / a2) w) ∧ ((a0.toInt = 8) → (¬ a2 = 0) ∧ F (a1 - a1 / a2 * a2) w) ∧ ((a0.toInt = 9) → F (a1 &&& a2) w) ∧ ((a0.toInt = 10) → F (a1 ||| a2) w) ∧ ((a0.toInt = 11) → F (a1 ^^^ a2) w) ∧ ((a0.toInt = 12) → F (a1 <<< ((a2 &&& (31 : Int32)) &&& 31)) w) ∧ ((a0.toInt = 13) → F (a1 >>> ((a2 &&& (31 : Int32)) &&& 31)) w) ∧ ((a0.toInt = 14) → ((a1 < a2 → F (1 : Int32) w) ∧ (¬ a1 < a2 → F (0 : Int32) w))) ∧ ((a0.toInt = 15) → ((a1 = a2 → F (1 : Int32) w) ∧ (¬ a1 = a2 → F (0 : Int32) w))) ∧ ((a0.toInt = 16) → F (-a1) w))) :
    zGo d m_X9_reckon 0 [.int a0, .int a1, .int a2] [] (yz w) (zKi F) := by
  refine g_s (pc' := 1) rfl ?_
  refine g_tsw rfl (fun hx => ?_) (fun j hx hy => ?_)
  · replace H := H.1 (by omega)
    show zGo d m_X9_reckon 139 [.int a0, .int a1, .int a2] [] (yz w) (zKi F)
    refine g_s (pc' := 140) rfl ?_
    refine g_ifne (pc' := 143) rfl rfl (fun hc => ?_) (fun hc => ?_)
    · replace H := H.1 hc
      refine g_psh (pc' := 144) (v' := .int 1) rfl (congrArg Value.int kc_i1) ?_
      refine g_s (pc' := 148) rfl ?_
      exact g_reti rfl rfl H
    · replace H := H.2 hc
      refine g_psh (pc' := 148) (v' := .int 0) rfl (congrArg Value.int kc_i0) ?_
      exact g_reti rfl rfl H
  · have hj : j < 13 := by omega
    match j, hj, hx with
    | 0, _, hx =>
      refine ⟨67, rfl, ?_⟩
      replace H := H.2.1 (by omega)
      show zGo d m_X9_reckon 68 [.int a0, .int a1, .int a2] [] (yz w) (zKi F)
      refine g_s (pc' := 69) rfl ?_
      refine g_s (pc' := 70) rfl ?_
      refine g_s (pc' := 71) (st' := [.int (a1 + a2)]) rfl ?_
      exact g_reti rfl rfl H
    | 1, _, hx =>
      refine ⟨71, rfl, ?_⟩
      replace H := H.2.2.1 (by omega)
      show zGo d m_X9_reckon 72 [.int a0, .int a1, .int a2] [] (yz w) (zKi F)
      refine g_s (pc' := 73) rfl ?_
      refine g_s (pc' := 74) rfl ?_
      refine g_s (pc' := 75) (st' := [.int (a1 - a2)]) rfl ?_
      exact g_reti rfl rfl H
    | 2, _, hx =>
      refine ⟨75, rfl, ?_⟩
      replace H := H.2.2.2.1 (by omega)
      show zGo d m_X9_reckon 76 [.int a0, .int a1, .int a2] [] (yz w) (zKi F)
      refine g_s (pc' := 77) rfl ?_
      refine g_s (pc' := 78) rfl ?_
      refine g_s (pc' := 79) (st' := [.int (a1 * a2)]) rfl ?_
      exact g_reti rfl rfl H
    | 3, _, hx =>
      refine ⟨79, rfl, ?_⟩
      replace H := H.2.2.2.2.1 (by omega)
      show zGo d m_X9_reckon 80 [.int a0, .int a1, .int a2] [] (yz w) (zKi F)
      refine g_s (pc' := 81) rfl ?_
      refine g_s (pc' := 82) rfl ?_
      obtain ⟨hv1, H⟩ := H
      refine g_div (pc' := 83) (f := (fun x y => x / y)) rfl rfl rfl rfl hv1 ?_
      show zGo d m_X9_reckon 83 [.int a0, .int a1, .int a2] [.int (a1 / a2)] (yz w) (zKi F)
      exact g_reti rfl rfl H
    | 4, _, hx =>
      refine ⟨83, rfl, ?_⟩
      replace H := H.2.2.2.2.2.1 (by omega)
      show zGo d m_X9_reckon 84 [.int a0, .int a1, .int a2] [] (yz w) (zKi F)
      refine g_s (pc' := 85) rfl ?_
      refine g_s (pc' := 86) rfl ?_
      obtain ⟨hv2, H⟩ := H
      refine g_div (pc' := 87) (f := (fun x y => x - x / y * y)) rfl rfl rfl rfl hv2 ?_
      show zGo d m_X9_reckon 87 [.int a0, .int a1, .int a2] [.int (a1 - a1 / a2 * a2)] (yz w) (zKi F)
      exact g_reti rfl rfl H
    | 5, _, hx =>
      refine ⟨87, rfl, ?_⟩
      replace H := H.2.2.2.2.2.2.1 (by omega)
      show zGo d m_X9_reckon 88 [.int a0, .int a1, .int a2] [] (yz w) (zKi F)
      refine g_s (pc' := 89) rfl ?_
      refine g_s (pc' := 90) rfl ?_
      refine g_s (pc' := 91) (st' := [.int (a1 &&& a2)]) rfl ?_
      exact g_reti rfl rfl H
    | 6, _, hx =>
      refine ⟨91, rfl, ?_⟩
      replace H := H.2.2.2.2.2.2.2.1 (by omega)
      show zGo d m_X9_reckon 92 [.int a0, .int a1, .int a2] [] (yz w) (zKi F)
      refine g_s (pc' := 93) rfl ?_
      refine g_s (pc' := 94) rfl ?_
      refine g_s (pc' := 95) (st' := [.int (a1 ||| a2)]) rfl ?_
      exact g_reti rfl rfl H
    | 7, _, hx =>
      refine ⟨95, rfl, ?_⟩
      replace H := H.2.2.2.2.2.2.2.2.1 (by omega)
      show zGo d m_X9_reckon 96 [.int a0, .int a1, .int a2] [] (yz w) (zKi F)
      refine g_s (pc' := 97) rfl ?_
      refine g_s (pc' := 98) rfl ?_
      refine g_s (pc' := 99) (st' := [.int (a1 ^^^ a2)]) rfl ?_
      exact g_reti rfl rfl H
    | 8, _, hx =>
      refine ⟨99, rfl, ?_⟩
      replace H := H.2.2.2.2.2.2.2.2.2.1 (by omega)
      show zGo d m_X9_reckon 100 [.int a0, .int a1, .int a2] [] (yz w) (zKi F)
      refine g_s (pc' := 101) rfl ?_
      refine g_s (pc' := 102) rfl ?_
      refine g_psh (pc' := 104) (v' := .int 31) rfl (congrArg Value.int kc_b31) ?_
      refine g_s (pc' := 105) (st' := [.int (a2 &&& (31 : Int32)), .int a1]) rfl ?_
      refine g_s (pc' := 106) (st' := [.int (a1 <<< ((a2 &&& (31 : Int32)) &&& 31))]) rfl ?_
      exact g_reti rfl rfl H
    | 9, _, hx =>
      refine ⟨106, rfl, ?_⟩
      replace H := H.2.2.2.2.2.2.2.2.2.2.1 (by omega)
      show zGo d m_X9_reckon 107 [.int a0, .int a1, .int a2] [] (yz w) (zKi F)
      refine g_s (pc' := 108) rfl ?_
      refine g_s (pc' := 109) rfl ?_
      refine g_psh (pc' := 111) (v' := .int 31) rfl (congrArg Value.int kc_b31) ?_
      refine g_s (pc' := 112) (st' := [.int (a2 &&& (31 : Int32)), .int a1]) rfl ?_
      refine g_s (pc' := 113) (st' := [.int (a1 >>> ((a2 &&& (31 : Int32)) &&& 31))]) rfl ?_
      exact g_reti rfl rfl H
    | 10, _, hx =>
      refine ⟨113, rfl, ?_⟩
      replace H := H.2.2.2.2.2.2.2.2.2.2.2.1 (by omega)
      show zGo d m_X9_reckon 114 [.int a0, .int a1, .int a2] [] (yz w) (zKi F)
      refine g_s (pc' := 115) rfl ?_
      refine g_s (pc' := 116) rfl ?_
      refine g_icge (pc' := 119) rfl rfl (fun hc => ?_) (fun hc => ?_)
      · replace H := H.1 hc
        refine g_psh (pc' := 120) (v' := .int 1) rfl (congrArg Value.int kc_i1) ?_
        refine g_s (pc' := 124) rfl ?_
        exact g_reti rfl rfl H
      · replace H := H.2 hc
        refine g_psh (pc' := 124) (v' := .int 0) rfl (congrArg Value.int kc_i0) ?_
        exact g_reti rfl rfl H
    | 11, _, hx =>
      refine ⟨124, rfl, ?_⟩
      replace H := H.2.2.2.2.2.2.2.2.2.2.2.2.1 (by omega)
      show zGo d m_X9_reckon 125 [.int a0, .int a1, .int a2] [] (yz w) (zKi F)
      refine g_s (pc' := 126) rfl ?_
      refine g_s (pc' := 127) rfl ?_
      refine g_icne (pc' := 130) rfl rfl (fun hc => ?_) (fun hc => ?_)
      · replace H := H.1 hc
        refine g_psh (pc' := 131) (v' := .int 1) rfl (congrArg Value.int kc_i1) ?_
        refine g_s (pc' := 135) rfl ?_
        exact g_reti rfl rfl H
      · replace H := H.2 hc
        refine g_psh (pc' := 135) (v' := .int 0) rfl (congrArg Value.int kc_i0) ?_
        exact g_reti rfl rfl H
    | 12, _, hx =>
      refine ⟨135, rfl, ?_⟩
      replace H := H.2.2.2.2.2.2.2.2.2.2.2.2.2 (by omega)
      show zGo d m_X9_reckon 136 [.int a0, .int a1, .int a2] [] (yz w) (zKi F)
      refine g_s (pc' := 137) rfl ?_
      refine g_s (pc' := 138) (st' := [.int (-a1)]) rfl ?_
      exact g_reti rfl rfl H
    | _ + 13, hj, _ => exact absurd hj (by omega)
set_option maxHeartbeats 4000000 in
theorem B_X9_recording_0 {d : Nat} {w : zm} {F : Int32 → zm → Prop} 
    (H : (((yI w 1031 42) < 0 → F (-1 : Int32) (yuI w 1031 1 (0 : Int32))) ∧ (¬ (yI w 1031 42) < 0 → (((yI w 1031 43) < 0 → F (yI w 1031 42) (yuI w 1031 1 (0 : Int32))) ∧ (¬ (yI w 1031 43) < 0 → F ((yI w 1031 42) + (1000 : Int32)) (yuI w 1031 1 (0 : Int32))))))) :
    zGo d m_X9_recording 0 [.ref 1031] [] (yz w) (zKi F) := by
  refine g_s (pc' := 1) rfl ?_
  refine g_psh (pc' := 2) (v' := .int 0) rfl (congrArg Value.int kc_i0) ?_
  refine g_putI (pc' := 5) rfl rfl rfl rfl rfl rfl (fun _ => rfl) ?_
  refine g_s (pc' := 6) rfl ?_
  refine g_getf (pc' := 9) (v := .int (yI w 1031 42)) rfl rfl rfl rfl rfl ?_
  refine g_ifge (pc' := 12) rfl rfl (fun hc => ?_) (fun hc => ?_)
  · replace H := H.1 hc
    refine g_psh (pc' := 13) (v' := .int (-1)) rfl (congrArg Value.int kc_im1) ?_
    refine g_s (pc' := 38) rfl ?_
    exact g_reti rfl rfl H
  · replace H := H.2 hc
    refine g_s (pc' := 17) rfl ?_
    refine g_getf (pc' := 20) (v := .int (yI w 1031 43)) rfl rfl rfl rfl rfl ?_
    refine g_ifge (pc' := 23) rfl rfl (fun hc => ?_) (fun hc => ?_)
    · replace H := H.1 hc
      refine g_s (pc' := 24) rfl ?_
      refine g_getf (pc' := 27) (v := .int (yI w 1031 42)) rfl rfl rfl rfl rfl ?_
      refine g_s (pc' := 38) rfl ?_
      exact g_reti rfl rfl H
    · replace H := H.2 hc
      refine g_s (pc' := 31) rfl ?_
      refine g_getf (pc' := 34) (v := .int (yI w 1031 42)) rfl rfl rfl rfl rfl ?_
      refine g_psh (pc' := 37) (v' := .int 1000) rfl (congrArg Value.int kc_s1000) ?_
      refine g_s (pc' := 38) (st' := [.int ((yI w 1031 42) + (1000 : Int32))]) rfl ?_
      exact g_reti rfl rfl H
set_option maxHeartbeats 4000000 in
theorem B_X9_reset_0 {d : Nat} {w : zm} {F : zm → Prop} 
    (H : zGo d m_X9_reset 77 [.ref 1031, .int (0 : Int32)] [] (yz (yuI (yuI (yuL (yuL (yuL (yuL (yuL (yuL (yuI (yuI (yuI (yuI (yuI (yuI (yuI w 1031 1 (0 : Int32)) 1031 2 (0 : Int32)) 1031 3 (0 : Int32)) 1031 5 (-1 : Int32)) 1031 6 (0 : Int32)) 1031 9 (0 : Int32)) 1031 12 (0 : Int32)) 1031 13 (0 : Int64)) 1031 14 (0 : Int64)) 1031 15 (0 : Int64)) 1031 16 (0 : Int64)) 1031 17 (0 : Int64)) 1031 18 (0 : Int64)) 1031 19 (0 : Int32)) 1031 42 (-1 : Int32))) (zKv F)) :
    zGo d m_X9_reset 0 [.ref 1031, zJ] [] (yz w) (zKv F) := by
  refine g_s (pc' := 1) rfl ?_
  refine g_psh (pc' := 2) (v' := .int 0) rfl (congrArg Value.int kc_i0) ?_
  refine g_putI (pc' := 5) rfl rfl rfl rfl rfl rfl (fun _ => rfl) ?_
  refine g_s (pc' := 6) rfl ?_
  refine g_psh (pc' := 7) (v' := .int 0) rfl (congrArg Value.int kc_i0) ?_
  refine g_putI (pc' := 10) rfl rfl rfl rfl rfl rfl (fun _ => rfl) ?_
  refine g_s (pc' := 11) rfl ?_
  refine g_psh (pc' := 12) (v' := .int 0) rfl (congrArg Value.int kc_i0) ?_
  refine g_putI (pc' := 15) rfl rfl rfl rfl rfl rfl (fun _ => rfl) ?_
  refine g_s (pc' := 16) rfl ?_
  refine g_psh (pc' := 17) (v' := .int (-1)) rfl (congrArg Value.int kc_im1) ?_
  refine g_putI (pc' := 20) rfl rfl rfl rfl rfl rfl (fun _ => rfl) ?_
  refine g_s (pc' := 21) rfl ?_
  refine g_psh (pc' := 22) (v' := .int 0) rfl (congrArg Value.int kc_i0) ?_
  refine g_putI (pc' := 25) rfl rfl rfl rfl rfl rfl (fun _ => rfl) ?_
  refine g_s (pc' := 26) rfl ?_
  refine g_psh (pc' := 27) (v' := .int 0) rfl (congrArg Value.int kc_i0) ?_
  refine g_putI (pc' := 30) rfl rfl rfl rfl rfl rfl (fun _ => rfl) ?_
  refine g_s (pc' := 31) rfl ?_
  refine g_psh (pc' := 32) (v' := .int 0) rfl (congrArg Value.int kc_i0) ?_
  refine g_putI (pc' := 35) rfl rfl rfl rfl rfl rfl (fun _ => rfl) ?_
  refine g_s (pc' := 36) rfl ?_
  refine g_psh (pc' := 37) (v' := .long 0) rfl (congrArg Value.long kc_l0) ?_
  refine g_putL (pc' := 40) rfl rfl rfl rfl rfl rfl (fun _ => rfl) ?_
  refine g_s (pc' := 41) rfl ?_
  refine g_psh (pc' := 42) (v' := .long 0) rfl (congrArg Value.long kc_l0) ?_
  refine g_putL (pc' := 45) rfl rfl rfl rfl rfl rfl (fun _ => rfl) ?_
  refine g_s (pc' := 46) rfl ?_
  refine g_psh (pc' := 47) (v' := .long 0) rfl (congrArg Value.long kc_l0) ?_
  refine g_putL (pc' := 50) rfl rfl rfl rfl rfl rfl (fun _ => rfl) ?_
  refine g_s (pc' := 51) rfl ?_
  refine g_psh (pc' := 52) (v' := .long 0) rfl (congrArg Value.long kc_l0) ?_
  refine g_putL (pc' := 55) rfl rfl rfl rfl rfl rfl (fun _ => rfl) ?_
  refine g_s (pc' := 56) rfl ?_
  refine g_psh (pc' := 57) (v' := .long 0) rfl (congrArg Value.long kc_l0) ?_
  refine g_putL (pc' := 60) rfl rfl rfl rfl rfl rfl (fun _ => rfl) ?_
  refine g_s (pc' := 61) rfl ?_
  refine g_psh (pc' := 62) (v' := .long 0) rfl (congrArg Value.long kc_l0) ?_
  refine g_putL (pc' := 65) rfl rfl rfl rfl rfl rfl (fun _ => rfl) ?_
  refine g_s (pc' := 66) rfl ?_
  refine g_psh (pc' := 67) (v' := .int 0) rfl (congrArg Value.int kc_i0) ?_
  refine g_putI (pc' := 70) rfl rfl rfl rfl rfl (zfitb _ (Or.inl rfl)) (fun _ => rfl) ?_
  refine g_s (pc' := 71) rfl ?_
  refine g_psh (pc' := 72) (v' := .int (-1)) rfl (congrArg Value.int kc_im1) ?_
  refine g_putI (pc' := 75) rfl rfl rfl rfl rfl rfl (fun _ => rfl) ?_
  refine g_psh (pc' := 76) (v' := .int 0) rfl (congrArg Value.int kc_i0) ?_
  refine g_ist (k := 1) (pc' := 77) (ls' := [.ref 1031, .int (0 : Int32)]) rfl rfl rfl rfl (zst1_of rfl (Or.inr rfl) rfl) ?_
  exact H
set_option maxHeartbeats 4000000 in
theorem B_X9_reset_77 {d : Nat} {w : zm} {F : zm → Prop} (a1 : Int32)
    (H : ((a1 < (16 : Int32) → (zin a1 16) ∧ (zin a1 16) ∧ zGo d m_X9_reset 77 [.ref 1031, .int (a1 + 1)] [] (yz (yuA (yuA w 1033 (Int32.toNatClampNeg a1) (0 : Int32)) 1039 (Int32.toNatClampNeg a1) (-1 : Int32))) (zKv F)) ∧ (¬ a1 < (16 : Int32) → zGo d m_X9_reset 105 [.ref 1031, .int (0 : Int32)] [] (yz w) (zKv F)))) :
    zGo d m_X9_reset 77 [.ref 1031, .int a1] [] (yz w) (zKv F) := by
  refine g_s (pc' := 78) rfl ?_
  refine g_psh (pc' := 80) (v' := .int 16) rfl (congrArg Value.int kc_b16) ?_
  refine g_icge (pc' := 83) rfl rfl (fun hc => ?_) (fun hc => ?_)
  · replace H := H.1 hc
    refine g_s (pc' := 84) rfl ?_
    refine g_getf (pc' := 87) (v := .ref 1033) rfl rfl rfl rfl rfl ?_
    refine g_s (pc' := 88) rfl ?_
    refine g_psh (pc' := 89) (v' := .int 0) rfl (congrArg Value.int kc_i0) ?_
    obtain ⟨hi1, H⟩ := H
    refine g_iast (pc' := 90) rfl rfl rfl rfl rfl rfl hi1 ?_
    refine g_s (pc' := 91) rfl ?_
    refine g_getf (pc' := 94) (v := .ref 1039) rfl rfl rfl rfl rfl ?_
    refine g_s (pc' := 95) rfl ?_
    refine g_psh (pc' := 96) (v' := .int (-1)) rfl (congrArg Value.int kc_im1) ?_
    obtain ⟨hi2, H⟩ := H
    refine g_iast (pc' := 97) rfl rfl rfl rfl rfl rfl hi2 ?_
    refine g_inc (pc' := 100) (ls' := [.ref 1031, .int (a1 + 1)]) rfl rfl rfl kc_i1 (zst1_of rfl (Or.inr rfl) rfl) ?_
    refine g_s (pc' := 77) rfl ?_
    exact H
  · replace H := H.2 hc
    refine g_psh (pc' := 104) (v' := .int 0) rfl (congrArg Value.int kc_i0) ?_
    refine g_ist (k := 1) (pc' := 105) (ls' := [.ref 1031, .int (0 : Int32)]) rfl rfl rfl rfl (zst1_of rfl (Or.inr rfl) rfl) ?_
    exact H
set_option maxHeartbeats 4000000 in
theorem B_X9_reset_105 {d : Nat} {w : zm} {F : zm → Prop} (a1 : Int32)
    (H : ((a1 < (32 : Int32) → (zin a1 32) ∧ zGo d m_X9_reset 105 [.ref 1031, .int (a1 + 1)] [] (yz (yuA w 1035 (Int32.toNatClampNeg a1) (0 : Int32))) (zKv F)) ∧ (¬ a1 < (32 : Int32) → zGo d m_X9_reset 126 [.ref 1031, .int (0 : Int32)] [] (yz w) (zKv F)))) :
    zGo d m_X9_reset 105 [.ref 1031, .int a1] [] (yz w) (zKv F) := by
  refine g_s (pc' := 106) rfl ?_
  refine g_psh (pc' := 108) (v' := .int 32) rfl (congrArg Value.int kc_b32) ?_
  refine g_icge (pc' := 111) rfl rfl (fun hc => ?_) (fun hc => ?_)
  · replace H := H.1 hc
    refine g_s (pc' := 112) rfl ?_
    refine g_getf (pc' := 115) (v := .ref 1035) rfl rfl rfl rfl rfl ?_
    refine g_s (pc' := 116) rfl ?_
    refine g_psh (pc' := 117) (v' := .int 0) rfl (congrArg Value.int kc_i0) ?_
    obtain ⟨hi1, H⟩ := H
    refine g_iast (pc' := 118) rfl rfl rfl rfl rfl rfl hi1 ?_
    refine g_inc (pc' := 121) (ls' := [.ref 1031, .int (a1 + 1)]) rfl rfl rfl kc_i1 (zst1_of rfl (Or.inr rfl) rfl) ?_
    refine g_s (pc' := 105) rfl ?_
    exact H
  · replace H := H.2 hc
    refine g_psh (pc' := 125) (v' := .int 0) rfl (congrArg Value.int kc_i0) ?_
    refine g_ist (k := 1) (pc' := 126) (ls' := [.ref 1031, .int (0 : Int32)]) rfl rfl rfl rfl (zst1_of rfl (Or.inr rfl) rfl) ?_
    exact H
set_option maxHeartbeats 4000000 in
theorem B_X9_reset_126 {d : Nat} {w : zm} {F : zm → Prop} (a1 : Int32)
    (H : ((a1 < (200 : Int32) → (zin a1 200) ∧ (zin a1 200) ∧ zGo d m_X9_reset 126 [.ref 1031, .int (a1 + 1)] [] (yz (yuA (yuA w 1037 (Int32.toNatClampNeg a1) (0 : Int32)) 1038 (Int32.toNatClampNeg a1) (0 : Int32))) (zKv F)) ∧ (¬ a1 < (200 : Int32) → F w))) :
    zGo d m_X9_reset 126 [.ref 1031, .int a1] [] (yz w) (zKv F) := by
  refine g_s (pc' := 127) rfl ?_
  refine g_psh (pc' := 130) (v' := .int 200) rfl (congrArg Value.int kc_s200) ?_
  refine g_icge (pc' := 133) rfl rfl (fun hc => ?_) (fun hc => ?_)
  · replace H := H.1 hc
    refine g_s (pc' := 134) rfl ?_
    refine g_getf (pc' := 137) (v := .ref 1037) rfl rfl rfl rfl rfl ?_
    refine g_s (pc' := 138) rfl ?_
    refine g_psh (pc' := 139) (v' := .int 0) rfl (congrArg Value.int kc_i0) ?_
    obtain ⟨hi1, H⟩ := H
    refine g_iast (pc' := 140) rfl rfl rfl rfl rfl rfl hi1 ?_
    refine g_s (pc' := 141) rfl ?_
    refine g_getf (pc' := 144) (v := .ref 1038) rfl rfl rfl rfl rfl ?_
    refine g_s (pc' := 145) rfl ?_
    refine g_psh (pc' := 146) (v' := .int 0) rfl (congrArg Value.int kc_i0) ?_
    obtain ⟨hi2, H⟩ := H
    refine g_iast (pc' := 147) rfl rfl rfl rfl rfl rfl hi2 ?_
    refine g_inc (pc' := 150) (ls' := [.ref 1031, .int (a1 + 1)]) rfl rfl rfl kc_i1 (zst1_of rfl (Or.inr rfl) rfl) ?_
    refine g_s (pc' := 126) rfl ?_
    exact H
  · replace H := H.2 hc
    exact g_retv rfl rfl H
set_option maxHeartbeats 4000000 in
theorem B_X9_run_0 {d : Nat} {w : zm} {F : Int32 → zm → Prop} (a1 : Int32)
    (H : zGo d m_X9_in 0 [.int a1, .int (0 : Int32), .int (100000 : Int32)] [] (yz w) (zKi fun v2 w1 => ((v2 = 0 → ((0 < (1 : Int32) → F (0 : Int32) (yuI w1 1031 1 (1 : Int32))) ∧ (¬ 0 < (1 : Int32) → zGo (d + 1) m_X9_run 43 [.ref 1031, .int a1, .int a1, zJ] [] (yz (yuI w1 1031 1 (1 : Int32))) (zKi F)))) ∧ (¬ v2 = 0 → (((yI w1 1031 2) = (2 : Int32) → ((0 < (0 : Int32) → F (0 : Int32) (yuI w1 1031 1 (0 : Int32))) ∧ (¬ 0 < (0 : Int32) → zGo (d + 1) m_X9_run 43 [.ref 1031, .int a1, .int a1, zJ] [] (yz (yuI w1 1031 1 (0 : Int32))) (zKi F)))) ∧ (¬ (yI w1 1031 2) = (2 : Int32) → ((0 < (2 : Int32) → F (0 : Int32) (yuI w1 1031 1 (2 : Int32))) ∧ (¬ 0 < (2 : Int32) → zGo (d + 1) m_X9_run 43 [.ref 1031, .int a1, .int a1, zJ] [] (yz (yuI w1 1031 1 (2 : Int32))) (zKi F))))))))) :
    zGo (d + 1) m_X9_run 0 [.ref 1031, .int a1, zJ, zJ] [] (yz w) (zKi F) := by
  refine g_s (pc' := 1) rfl ?_
  refine g_s (pc' := 2) rfl ?_
  refine g_psh (pc' := 3) (v' := .int 0) rfl (congrArg Value.int kc_i0) ?_
  refine g_psh (pc' := 6) (v' := .int 100000) rfl (congrArg Value.int kc_n100000) ?_
  refine g_calli (a := m_X9_in) (as := [.int a1, .int (0 : Int32), .int (100000 : Int32)]) (rest := [.ref 1031]) (ls0 := [.int a1, .int (0 : Int32), .int (100000 : Int32)]) (pc' := 9) (t_stat rfl (Or.inl rfl) rfl rfl rfl rfl) rfl rfl rfl ?_
  refine zGo.mono H (zKi_mono ?_)
  intro v2 w1 H
  refine g_ifne (pc' := 12) rfl rfl (fun hc => ?_) (fun hc => ?_)
  · replace H := H.1 hc
    refine g_psh (pc' := 13) (v' := .int 1) rfl (congrArg Value.int kc_i1) ?_
    refine g_s (pc' := 29) rfl ?_
    refine g_putI (pc' := 32) rfl rfl rfl rfl rfl rfl (fun _ => rfl) ?_
    refine g_s (pc' := 33) rfl ?_
    refine g_getf (pc' := 36) (v := .int (1 : Int32)) rfl rfl rfl rfl rfl ?_
    refine g_ifle (pc' := 39) rfl rfl (fun hc => ?_) (fun hc => ?_)
    · replace H := H.1 hc
      refine g_psh (pc' := 40) (v' := .int 0) rfl (congrArg Value.int kc_i0) ?_
      exact g_reti rfl rfl H
    · replace H := H.2 hc
      refine g_s (pc' := 42) rfl ?_
      refine g_ist (k := 2) (pc' := 43) (ls' := [.ref 1031, .int a1, .int a1, zJ]) rfl rfl rfl rfl (zst1_of rfl (Or.inr rfl) rfl) ?_
      exact H
  · replace H := H.2 hc
    refine g_s (pc' := 17) rfl ?_
    refine g_getf (pc' := 20) (v := .int (yI w1 1031 2)) rfl rfl rfl rfl rfl ?_
    refine g_psh (pc' := 21) (v' := .int 2) rfl (congrArg Value.int kc_i2) ?_
    refine g_iceq (pc' := 24) rfl rfl (fun hc => ?_) (fun hc => ?_)
    · replace H := H.1 hc
      refine g_psh (pc' := 29) (v' := .int 0) rfl (congrArg Value.int kc_i0) ?_
      refine g_putI (pc' := 32) rfl rfl rfl rfl rfl rfl (fun _ => rfl) ?_
      refine g_s (pc' := 33) rfl ?_
      refine g_getf (pc' := 36) (v := .int (0 : Int32)) rfl rfl rfl rfl rfl ?_
      refine g_ifle (pc' := 39) rfl rfl (fun hc => ?_) (fun hc => ?_)
      · replace H := H.1 hc
        refine g_psh (pc' := 40) (v' := .int 0) rfl (congrArg Value.int kc_i0) ?_
        exact g_reti rfl rfl H
      · replace H := H.2 hc
        refine g_s (pc' := 42) rfl ?_
        refine g_ist (k := 2) (pc' := 43) (ls' := [.ref 1031, .int a1, .int a1, zJ]) rfl rfl rfl rfl (zst1_of rfl (Or.inr rfl) rfl) ?_
        exact H
    · replace H := H.2 hc
      refine g_psh (pc' := 25) (v' := .int 2) rfl (congrArg Value.int kc_i2) ?_
      refine g_s (pc' := 29) rfl ?_
      refine g_putI (pc' := 32) rfl rfl rfl rfl rfl rfl (fun _ => rfl) ?_
      refine g_s (pc' := 33) rfl ?_
      refine g_getf (pc' := 36) (v := .int (2 : Int32)) rfl rfl rfl rfl rfl ?_
      refine g_ifle (pc' := 39) rfl rfl (fun hc => ?_) (fun hc => ?_)
      · replace H := H.1 hc
        refine g_psh (pc' := 40) (v' := .int 0) rfl (congrArg Value.int kc_i0) ?_
        exact g_reti rfl rfl H
      · replace H := H.2 hc
        refine g_s (pc' := 42) rfl ?_
        refine g_ist (k := 2) (pc' := 43) (ls' := [.ref 1031, .int a1, .int a1, zJ]) rfl rfl rfl rfl (zst1_of rfl (Or.inr rfl) rfl) ?_
        exact H
set_option maxHeartbeats 4000000 in
theorem B_X9_run_43 {d : Nat} {w : zm} {F : Int32 → zm → Prop} (a1 : Int32) (a2 : Int32) (ua3 : Value) (hua3 : zisL ua3 = false)
    (H : ((0 < a2 → (((yI w 1031 2) = (2 : Int32) → (((yI w 1031 42) < 0 → zGo (d + 1) m_X9_run 75 [.ref 1031, .int a1, .int a2, ua3] [] (yz w) (zKi F)) ∧ (¬ (yI w 1031 42) < 0 → (((yI w 1031 46) = (48 : Int32) → zGo d m_X9_cutOff 0 [.ref 1031] [] (yz w) (zKv fun w1 => zGo (d + 1) m_X9_run 75 [.ref 1031, .int a1, .int a2, ua3] [] (yz w1) (zKi F))) ∧ (¬ (yI w 1031 46) = (48 : Int32) → zGo (d + 1) m_X9_run 75 [.ref 1031, .int a1, .int a2, ua3] [] (yz w) (zKi F)))))) ∧ (¬ (yI w 1031 2) = (2 : Int32) → F (yI w 1031 2) w))) ∧ (¬ 0 < a2 → F (yI w 1031 2) w))) :
    zGo (d + 1) m_X9_run 43 [.ref 1031, .int a1, .int a2, ua3] [] (yz w) (zKi F) := by
  refine g_s (pc' := 44) rfl ?_
  refine g_ifle (pc' := 47) rfl rfl (fun hc => ?_) (fun hc => ?_)
  · replace H := H.1 hc
    refine g_s (pc' := 48) rfl ?_
    refine g_getf (pc' := 51) (v := .int (yI w 1031 2)) rfl rfl rfl rfl rfl ?_
    refine g_psh (pc' := 52) (v' := .int 2) rfl (congrArg Value.int kc_i2) ?_
    refine g_icne (pc' := 55) rfl rfl (fun hc => ?_) (fun hc => ?_)
    · replace H := H.1 hc
      refine g_s (pc' := 56) rfl ?_
      refine g_getf (pc' := 59) (v := .int (yI w 1031 42)) rfl rfl rfl rfl rfl ?_
      refine g_iflt (pc' := 62) rfl rfl (fun hc => ?_) (fun hc => ?_)
      · replace H := H.1 hc
        exact H
      · replace H := H.2 hc
        refine g_s (pc' := 63) rfl ?_
        refine g_getf (pc' := 66) (v := .int (yI w 1031 46)) rfl rfl rfl rfl rfl ?_
        refine g_psh (pc' := 68) (v' := .int 48) rfl (congrArg Value.int kc_b48) ?_
        refine g_icne (pc' := 71) rfl rfl (fun hc => ?_) (fun hc => ?_)
        · replace H := H.1 hc
          refine g_s (pc' := 72) rfl ?_
          refine g_callv (a := m_X9_cutOff) (as := [.ref 1031]) (rest := []) (ls0 := [.ref 1031]) (pc' := 75) (t_virt rfl rfl rfl rfl rfl rfl) rfl rfl rfl ?_
          refine zGo.mono H (zKv_mono ?_)
          intro w1 H
          exact H
        · replace H := H.2 hc
          exact H
    · replace H := H.2 hc
      refine g_s (pc' := 139) rfl ?_
      refine g_getf (pc' := 142) (v := .int (yI w 1031 2)) rfl rfl rfl rfl rfl ?_
      exact g_reti rfl rfl H
  · replace H := H.2 hc
    refine g_s (pc' := 139) rfl ?_
    refine g_getf (pc' := 142) (v := .int (yI w 1031 2)) rfl rfl rfl rfl rfl ?_
    exact g_reti rfl rfl H
set_option maxHeartbeats 4000000 in
theorem B_X9_run_75 {d : Nat} {w : zm} {F : Int32 → zm → Prop} (a1 : Int32) (a2 : Int32) (ua3 : Value) (hua3 : zisL ua3 = false)
    (H : (((yI w 1031 42) < 0 → (((yI w 1031 19) = 0 → zGo d m_X9_traceOf 0 [.ref 1031, .int (yI w 1031 6), zJ] [] (yz w) (zKi fun v2 w1 => zGo (d + 1) m_X9_run 101 [.ref 1031, .int a1, .int a2, ua3] [.int v2] (yz w1) (zKi F))) ∧ (¬ (yI w 1031 19) = 0 → zGo (d + 1) m_X9_run 101 [.ref 1031, .int a1, .int a2, ua3] [.int (-1 : Int32)] (yz w) (zKi F)))) ∧ (¬ (yI w 1031 42) < 0 → zGo (d + 1) m_X9_run 101 [.ref 1031, .int a1, .int a2, ua3] [.int (-1 : Int32)] (yz w) (zKi F)))) :
    zGo (d + 1) m_X9_run 75 [.ref 1031, .int a1, .int a2, ua3] [] (yz w) (zKi F) := by
  refine g_s (pc' := 76) rfl ?_
  refine g_getf (pc' := 79) (v := .int (yI w 1031 42)) rfl rfl rfl rfl rfl ?_
  refine g_ifge (pc' := 82) rfl rfl (fun hc => ?_) (fun hc => ?_)
  · replace H := H.1 hc
    refine g_s (pc' := 83) rfl ?_
    refine g_getf (pc' := 86) (v := .int (yI w 1031 19)) rfl rfl rfl rfl rfl ?_
    refine g_ifeq (pc' := 89) rfl rfl (fun hc => ?_) (fun hc => ?_)
    · replace H := H.1 hc
      refine g_s (pc' := 94) rfl ?_
      refine g_s (pc' := 95) rfl ?_
      refine g_getf (pc' := 98) (v := .int (yI w 1031 6)) rfl rfl rfl rfl rfl ?_
      refine g_calli (a := m_X9_traceOf) (as := [.ref 1031, .int (yI w 1031 6)]) (rest := []) (ls0 := [.ref 1031, .int (yI w 1031 6), zJ]) (pc' := 101) (t_virt rfl rfl rfl rfl rfl rfl) rfl rfl rfl ?_
      refine zGo.mono H (zKi_mono ?_)
      intro v2 w1 H
      exact H
    · replace H := H.2 hc
      refine g_psh (pc' := 90) (v' := .int (-1)) rfl (congrArg Value.int kc_im1) ?_
      refine g_s (pc' := 101) rfl ?_
      exact H
  · replace H := H.2 hc
    refine g_psh (pc' := 90) (v' := .int (-1)) rfl (congrArg Value.int kc_im1) ?_
    refine g_s (pc' := 101) rfl ?_
    exact H
set_option maxHeartbeats 4000000 in
theorem B_X9_run_101 {d : Nat} {w : zm} {F : Int32 → zm → Prop} (a1 : Int32) (a2 : Int32) (ua3 : Value) (s0 : Int32) (hua3 : zisL ua3 = false)
    (H : ((s0 < 0 → zGo d m_X9_plainStep 0 [.ref 1031, zJ, zJ, zJ] [] (yz w) (zKv fun w1 => zGo (d + 1) m_X9_run 43 [.ref 1031, .int a1, .int (a2 + (-1)), .int s0] [] (yz w1) (zKi F))) ∧ (¬ s0 < 0 → (zin s0 16) ∧ ((a2 < (yA w 1040 (Int32.toNatClampNeg s0)) → zGo d m_X9_plainStep 0 [.ref 1031, zJ, zJ, zJ] [] (yz w) (zKv fun w3 => zGo (d + 1) m_X9_run 43 [.ref 1031, .int a1, .int (a2 + (-1)), .int s0] [] (yz w3) (zKi F))) ∧ (¬ a2 < (yA w 1040 (Int32.toNatClampNeg s0)) → zGo d m_X9_pass 0 [.ref 1031, .int s0, .int a2, zJ, zJ, zJ, zJ, zJ, zJ] [] (yz w) (zKi fun v5 w4 => zGo (d + 1) m_X9_run 43 [.ref 1031, .int a1, .int (a2 - v5), .int s0] [] (yz w4) (zKi F))))))) :
    zGo (d + 1) m_X9_run 101 [.ref 1031, .int a1, .int a2, ua3] [.int s0] (yz w) (zKi F) := by
  refine g_ist (k := 3) (pc' := 102) (ls' := [.ref 1031, .int a1, .int a2, .int s0]) rfl rfl rfl rfl (zst1_of rfl (Or.inr rfl) rfl) ?_
  refine g_s (pc' := 103) rfl ?_
  refine g_iflt (pc' := 106) rfl rfl (fun hc => ?_) (fun hc => ?_)
  · replace H := H.1 hc
    refine g_s (pc' := 129) rfl ?_
    refine g_callv (a := m_X9_plainStep) (as := [.ref 1031]) (rest := []) (ls0 := [.ref 1031, zJ, zJ, zJ]) (pc' := 132) (t_virt rfl rfl rfl rfl rfl rfl) rfl rfl rfl ?_
    refine zGo.mono H (zKv_mono ?_)
    intro w1 H
    refine g_inc (pc' := 135) (ls' := [.ref 1031, .int a1, .int (a2 + (-1)), .int s0]) rfl rfl rfl kc_im1 (zst1_of rfl (Or.inr rfl) rfl) ?_
    refine g_s (pc' := 43) rfl ?_
    exact H
  · replace H := H.2 hc
    refine g_s (pc' := 107) rfl ?_
    refine g_getf (pc' := 110) (v := .ref 1040) rfl rfl rfl rfl rfl ?_
    refine g_s (pc' := 111) rfl ?_
    obtain ⟨hi2, H⟩ := H
    refine g_iald (pc' := 112) rfl rfl rfl rfl rfl (Or.inl rfl) hi2 ?_
    refine g_s (pc' := 113) rfl ?_
    refine g_icgt (pc' := 116) rfl rfl (fun hc => ?_) (fun hc => ?_)
    · replace H := H.1 hc
      refine g_s (pc' := 129) rfl ?_
      refine g_callv (a := m_X9_plainStep) (as := [.ref 1031]) (rest := []) (ls0 := [.ref 1031, zJ, zJ, zJ]) (pc' := 132) (t_virt rfl rfl rfl rfl rfl rfl) rfl rfl rfl ?_
      refine zGo.mono H (zKv_mono ?_)
      intro w3 H
      refine g_inc (pc' := 135) (ls' := [.ref 1031, .int a1, .int (a2 + (-1)), .int s0]) rfl rfl rfl kc_im1 (zst1_of rfl (Or.inr rfl) rfl) ?_
      refine g_s (pc' := 43) rfl ?_
      exact H
    · replace H := H.2 hc
      refine g_s (pc' := 117) rfl ?_
      refine g_s (pc' := 118) rfl ?_
      refine g_s (pc' := 119) rfl ?_
      refine g_s (pc' := 120) rfl ?_
      refine g_calli (a := m_X9_pass) (as := [.ref 1031, .int s0, .int a2]) (rest := [.int a2]) (ls0 := [.ref 1031, .int s0, .int a2, zJ, zJ, zJ, zJ, zJ, zJ]) (pc' := 123) (t_virt rfl rfl rfl rfl rfl rfl) rfl rfl rfl ?_
      refine zGo.mono H (zKi_mono ?_)
      intro v5 w4 H
      refine g_s (pc' := 124) (st' := [.int (a2 - v5)]) rfl ?_
      refine g_ist (k := 2) (pc' := 125) (ls' := [.ref 1031, .int a1, .int (a2 - v5), .int s0]) rfl rfl rfl rfl (zst1_of rfl (Or.inr rfl) rfl) ?_
      refine g_s (pc' := 135) rfl ?_
      refine g_s (pc' := 43) rfl ?_
      exact H
set_option maxHeartbeats 4000000 in
theorem B_X9_setLocal_0 {d : Nat} {w : zm} {F : Int32 → zm → Prop} (a1 : Int32) (a2 : Int32)
    (H : zGo d m_X9_in 0 [.int a1, .int (0 : Int32), .int (15 : Int32)] [] (yz w) (zKi fun v2 w1 => ((v2 = 0 → zGo (d + 1) m_X9_setLocal 35 [.ref 1031, .int a1, .int a2, zJ] [.int (1 : Int32), .ref 1031] (yz w1) (zKi F)) ∧ (¬ v2 = 0 → (((yI w1 1031 2) = 0 → zGo (d + 1) m_X9_setLocal 35 [.ref 1031, .int a1, .int a2, zJ] [.int (2 : Int32), .ref 1031] (yz w1) (zKi F)) ∧ (¬ (yI w1 1031 2) = 0 → (((yI w1 1031 2) = (2 : Int32) → zGo (d + 1) m_X9_setLocal 35 [.ref 1031, .int a1, .int a2, zJ] [.int (2 : Int32), .ref 1031] (yz w1) (zKi F)) ∧ (¬ (yI w1 1031 2) = (2 : Int32) → zGo (d + 1) m_X9_setLocal 35 [.ref 1031, .int a1, .int a2, zJ] [.int (0 : Int32), .ref 1031] (yz w1) (zKi F))))))))) :
    zGo (d + 1) m_X9_setLocal 0 [.ref 1031, .int a1, .int a2, zJ] [] (yz w) (zKi F) := by
  refine g_s (pc' := 1) rfl ?_
  refine g_s (pc' := 2) rfl ?_
  refine g_psh (pc' := 3) (v' := .int 0) rfl (congrArg Value.int kc_i0) ?_
  refine g_psh (pc' := 5) (v' := .int 15) rfl (congrArg Value.int kc_b15) ?_
  refine g_calli (a := m_X9_in) (as := [.int a1, .int (0 : Int32), .int (15 : Int32)]) (rest := [.ref 1031]) (ls0 := [.int a1, .int (0 : Int32), .int (15 : Int32)]) (pc' := 8) (t_stat rfl (Or.inl rfl) rfl rfl rfl rfl) rfl rfl rfl ?_
  refine zGo.mono H (zKi_mono ?_)
  intro v2 w1 H
  refine g_ifne (pc' := 11) rfl rfl (fun hc => ?_) (fun hc => ?_)
  · replace H := H.1 hc
    refine g_psh (pc' := 12) (v' := .int 1) rfl (congrArg Value.int kc_i1) ?_
    refine g_s (pc' := 35) rfl ?_
    exact H
  · replace H := H.2 hc
    refine g_s (pc' := 16) rfl ?_
    refine g_getf (pc' := 19) (v := .int (yI w1 1031 2)) rfl rfl rfl rfl rfl ?_
    refine g_ifeq (pc' := 22) rfl rfl (fun hc => ?_) (fun hc => ?_)
    · replace H := H.1 hc
      refine g_psh (pc' := 31) (v' := .int 2) rfl (congrArg Value.int kc_i2) ?_
      refine g_s (pc' := 35) rfl ?_
      exact H
    · replace H := H.2 hc
      refine g_s (pc' := 23) rfl ?_
      refine g_getf (pc' := 26) (v := .int (yI w1 1031 2)) rfl rfl rfl rfl rfl ?_
      refine g_psh (pc' := 27) (v' := .int 2) rfl (congrArg Value.int kc_i2) ?_
      refine g_icne (pc' := 30) rfl rfl (fun hc => ?_) (fun hc => ?_)
      · replace H := H.1 hc
        refine g_psh (pc' := 31) (v' := .int 2) rfl (congrArg Value.int kc_i2) ?_
        refine g_s (pc' := 35) rfl ?_
        exact H
      · replace H := H.2 hc
        refine g_psh (pc' := 35) (v' := .int 0) rfl (congrArg Value.int kc_i0) ?_
        exact H
set_option maxHeartbeats 4000000 in
theorem B_X9_setLocal_35 {d : Nat} {w : zm} {F : Int32 → zm → Prop} (a1 : Int32) (a2 : Int32) (s0 : Int32)
    (H : ((0 < s0 → F (0 : Int32) (yuI w 1031 1 s0)) ∧ (¬ 0 < s0 → (zin a1 16) ∧ (zin a1 16) ∧ F (yA w 1033 (Int32.toNatClampNeg a1)) (yuA (yuI w 1031 1 s0) 1033 (Int32.toNatClampNeg a1) a2)))) :
    zGo (d + 1) m_X9_setLocal 35 [.ref 1031, .int a1, .int a2, zJ] [.int s0, .ref 1031] (yz w) (zKi F) := by
  refine g_putI (pc' := 38) rfl rfl rfl rfl rfl rfl (fun _ => rfl) ?_
  refine g_s (pc' := 39) rfl ?_
  refine g_getf (pc' := 42) (v := .int s0) rfl rfl rfl rfl rfl ?_
  refine g_ifle (pc' := 45) rfl rfl (fun hc => ?_) (fun hc => ?_)
  · replace H := H.1 hc
    refine g_psh (pc' := 46) (v' := .int 0) rfl (congrArg Value.int kc_i0) ?_
    exact g_reti rfl rfl H
  · replace H := H.2 hc
    refine g_s (pc' := 48) rfl ?_
    refine g_getf (pc' := 51) (v := .ref 1033) rfl rfl rfl rfl rfl ?_
    refine g_s (pc' := 52) rfl ?_
    obtain ⟨hi1, H⟩ := H
    refine g_iald (pc' := 53) rfl rfl rfl rfl rfl (Or.inl rfl) hi1 ?_
    refine g_ist (k := 3) (pc' := 54) (ls' := [.ref 1031, .int a1, .int a2, .int (yA w 1033 (Int32.toNatClampNeg a1))]) rfl rfl rfl rfl (zst1_of rfl (Or.inr rfl) rfl) ?_
    refine g_s (pc' := 55) rfl ?_
    refine g_getf (pc' := 58) (v := .ref 1033) rfl rfl rfl rfl rfl ?_
    refine g_s (pc' := 59) rfl ?_
    refine g_s (pc' := 60) rfl ?_
    obtain ⟨hi2, H⟩ := H
    refine g_iast (pc' := 61) rfl rfl rfl rfl rfl rfl hi2 ?_
    refine g_s (pc' := 62) rfl ?_
    exact g_reti rfl rfl H
set_option maxHeartbeats 4000000 in
theorem B_X9_stack_0 {d : Nat} {w : zm} {F : Int32 → zm → Prop} (a1 : Int32)
    (H : zGo d m_X9_in 0 [.int a1, .int (0 : Int32), .int ((yI w 1031 9) - (1 : Int32))] [] (yz w) (zKi fun v2 w1 => ((v2 = 0 → zGo (d + 1) m_X9_stack 20 [.ref 1031, .int a1] [.int (1 : Int32), .ref 1031] (yz w1) (zKi F)) ∧ (¬ v2 = 0 → zGo (d + 1) m_X9_stack 20 [.ref 1031, .int a1] [.int (0 : Int32), .ref 1031] (yz w1) (zKi F))))) :
    zGo (d + 1) m_X9_stack 0 [.ref 1031, .int a1] [] (yz w) (zKi F) := by
  refine g_s (pc' := 1) rfl ?_
  refine g_s (pc' := 2) rfl ?_
  refine g_psh (pc' := 3) (v' := .int 0) rfl (congrArg Value.int kc_i0) ?_
  refine g_s (pc' := 4) rfl ?_
  refine g_getf (pc' := 7) (v := .int (yI w 1031 9)) rfl rfl rfl rfl rfl ?_
  refine g_psh (pc' := 8) (v' := .int 1) rfl (congrArg Value.int kc_i1) ?_
  refine g_s (pc' := 9) (st' := [.int ((yI w 1031 9) - (1 : Int32)), .int (0 : Int32), .int a1, .ref 1031]) rfl ?_
  refine g_calli (a := m_X9_in) (as := [.int a1, .int (0 : Int32), .int ((yI w 1031 9) - (1 : Int32))]) (rest := [.ref 1031]) (ls0 := [.int a1, .int (0 : Int32), .int ((yI w 1031 9) - (1 : Int32))]) (pc' := 12) (t_stat rfl (Or.inl rfl) rfl rfl rfl rfl) rfl rfl rfl ?_
  refine zGo.mono H (zKi_mono ?_)
  intro v2 w1 H
  refine g_ifeq (pc' := 15) rfl rfl (fun hc => ?_) (fun hc => ?_)
  · replace H := H.1 hc
    refine g_psh (pc' := 20) (v' := .int 1) rfl (congrArg Value.int kc_i1) ?_
    exact H
  · replace H := H.2 hc
    refine g_psh (pc' := 16) (v' := .int 0) rfl (congrArg Value.int kc_i0) ?_
    refine g_s (pc' := 20) rfl ?_
    exact H
set_option maxHeartbeats 4000000 in
theorem B_X9_stack_20 {d : Nat} {w : zm} {F : Int32 → zm → Prop} (a1 : Int32) (s0 : Int32)
    (H : ((0 < s0 → F (0 : Int32) (yuI w 1031 1 s0)) ∧ (¬ 0 < s0 → (zin a1 20) ∧ F (yA w 1034 (Int32.toNatClampNeg a1)) (yuI w 1031 1 s0)))) :
    zGo (d + 1) m_X9_stack 20 [.ref 1031, .int a1] [.int s0, .ref 1031] (yz w) (zKi F) := by
  refine g_putI (pc' := 23) rfl rfl rfl rfl rfl rfl (fun _ => rfl) ?_
  refine g_s (pc' := 24) rfl ?_
  refine g_getf (pc' := 27) (v := .int s0) rfl rfl rfl rfl rfl ?_
  refine g_ifle (pc' := 30) rfl rfl (fun hc => ?_) (fun hc => ?_)
  · replace H := H.1 hc
    refine g_psh (pc' := 31) (v' := .int 0) rfl (congrArg Value.int kc_i0) ?_
    refine g_s (pc' := 40) rfl ?_
    exact g_reti rfl rfl H
  · replace H := H.2 hc
    refine g_s (pc' := 35) rfl ?_
    refine g_getf (pc' := 38) (v := .ref 1034) rfl rfl rfl rfl rfl ?_
    refine g_s (pc' := 39) rfl ?_
    obtain ⟨hi1, H⟩ := H
    refine g_iald (pc' := 40) rfl rfl rfl rfl rfl (Or.inl rfl) hi1 ?_
    exact g_reti rfl rfl H
set_option maxHeartbeats 4000000 in
theorem B_X9_start_0 {d : Nat} {w : zm} {F : zm → Prop} 
    (H : (((yI w 1031 2) = 0 → zGo d m_X9_start 13 [.ref 1031, zJ] [.int (1 : Int32), .ref 1031] (yz w) (zKv F)) ∧ (¬ (yI w 1031 2) = 0 → zGo d m_X9_start 13 [.ref 1031, zJ] [.int (0 : Int32), .ref 1031] (yz w) (zKv F)))) :
    zGo d m_X9_start 0 [.ref 1031, zJ] [] (yz w) (zKv F) := by
  refine g_s (pc' := 1) rfl ?_
  refine g_s (pc' := 2) rfl ?_
  refine g_getf (pc' := 5) (v := .int (yI w 1031 2)) rfl rfl rfl rfl rfl ?_
  refine g_ifne (pc' := 8) rfl rfl (fun hc => ?_) (fun hc => ?_)
  · replace H := H.1 hc
    refine g_psh (pc' := 9) (v' := .int 1) rfl (congrArg Value.int kc_i1) ?_
    refine g_s (pc' := 13) rfl ?_
    exact H
  · replace H := H.2 hc
    refine g_psh (pc' := 13) (v' := .int 0) rfl (congrArg Value.int kc_i0) ?_
    exact H
set_option maxHeartbeats 4000000 in
theorem B_X9_start_13 {d : Nat} {w : zm} {F : zm → Prop} (s0 : Int32)
    (H : ((0 < s0 → F (yuI w 1031 1 s0)) ∧ (¬ 0 < s0 → zGo d m_X9_start 46 [.ref 1031, .int (0 : Int32)] [] (yz (yuI (yuI (yuI (yuI (yuI w 1031 1 s0) 1031 2 (2 : Int32)) 1031 6 (0 : Int32)) 1031 9 (0 : Int32)) 1031 12 (0 : Int32))) (zKv F)))) :
    zGo d m_X9_start 13 [.ref 1031, zJ] [.int s0, .ref 1031] (yz w) (zKv F) := by
  refine g_putI (pc' := 16) rfl rfl rfl rfl rfl rfl (fun _ => rfl) ?_
  refine g_s (pc' := 17) rfl ?_
  refine g_getf (pc' := 20) (v := .int s0) rfl rfl rfl rfl rfl ?_
  refine g_ifle (pc' := 23) rfl rfl (fun hc => ?_) (fun hc => ?_)
  · replace H := H.1 hc
    exact g_retv rfl rfl H
  · replace H := H.2 hc
    refine g_s (pc' := 25) rfl ?_
    refine g_psh (pc' := 26) (v' := .int 2) rfl (congrArg Value.int kc_i2) ?_
    refine g_putI (pc' := 29) rfl rfl rfl rfl rfl rfl (fun _ => rfl) ?_
    refine g_s (pc' := 30) rfl ?_
    refine g_psh (pc' := 31) (v' := .int 0) rfl (congrArg Value.int kc_i0) ?_
    refine g_putI (pc' := 34) rfl rfl rfl rfl rfl rfl (fun _ => rfl) ?_
    refine g_s (pc' := 35) rfl ?_
    refine g_psh (pc' := 36) (v' := .int 0) rfl (congrArg Value.int kc_i0) ?_
    refine g_putI (pc' := 39) rfl rfl rfl rfl rfl rfl (fun _ => rfl) ?_
    refine g_s (pc' := 40) rfl ?_
    refine g_psh (pc' := 41) (v' := .int 0) rfl (congrArg Value.int kc_i0) ?_
    refine g_putI (pc' := 44) rfl rfl rfl rfl rfl rfl (fun _ => rfl) ?_
    refine g_psh (pc' := 45) (v' := .int 0) rfl (congrArg Value.int kc_i0) ?_
    refine g_ist (k := 1) (pc' := 46) (ls' := [.ref 1031, .int (0 : Int32)]) rfl rfl rfl rfl (zst1_of rfl (Or.inr rfl) rfl) ?_
    exact H
set_option maxHeartbeats 4000000 in
theorem B_X9_start_46 {d : Nat} {w : zm} {F : zm → Prop} (a1 : Int32)
    (H : ((a1 < (32 : Int32) → (zin a1 32) ∧ zGo d m_X9_start 46 [.ref 1031, .int (a1 + 1)] [] (yz (yuA w 1035 (Int32.toNatClampNeg a1) (0 : Int32))) (zKv F)) ∧ (¬ a1 < (32 : Int32) → F (yuI (yuI (yuL (yuL w 1031 13 (0 : Int64)) 1031 14 (0 : Int64)) 1031 19 (0 : Int32)) 1031 42 (-1 : Int32))))) :
    zGo d m_X9_start 46 [.ref 1031, .int a1] [] (yz w) (zKv F) := by
  refine g_s (pc' := 47) rfl ?_
  refine g_psh (pc' := 49) (v' := .int 32) rfl (congrArg Value.int kc_b32) ?_
  refine g_icge (pc' := 52) rfl rfl (fun hc => ?_) (fun hc => ?_)
  · replace H := H.1 hc
    refine g_s (pc' := 53) rfl ?_
    refine g_getf (pc' := 56) (v := .ref 1035) rfl rfl rfl rfl rfl ?_
    refine g_s (pc' := 57) rfl ?_
    refine g_psh (pc' := 58) (v' := .int 0) rfl (congrArg Value.int kc_i0) ?_
    obtain ⟨hi1, H⟩ := H
    refine g_iast (pc' := 59) rfl rfl rfl rfl rfl rfl hi1 ?_
    refine g_inc (pc' := 62) (ls' := [.ref 1031, .int (a1 + 1)]) rfl rfl rfl kc_i1 (zst1_of rfl (Or.inr rfl) rfl) ?_
    refine g_s (pc' := 46) rfl ?_
    exact H
  · replace H := H.2 hc
    refine g_s (pc' := 66) rfl ?_
    refine g_psh (pc' := 67) (v' := .long 0) rfl (congrArg Value.long kc_l0) ?_
    refine g_putL (pc' := 70) rfl rfl rfl rfl rfl rfl (fun _ => rfl) ?_
    refine g_s (pc' := 71) rfl ?_
    refine g_psh (pc' := 72) (v' := .long 0) rfl (congrArg Value.long kc_l0) ?_
    refine g_putL (pc' := 75) rfl rfl rfl rfl rfl rfl (fun _ => rfl) ?_
    refine g_s (pc' := 76) rfl ?_
    refine g_psh (pc' := 77) (v' := .int 0) rfl (congrArg Value.int kc_i0) ?_
    refine g_putI (pc' := 80) rfl rfl rfl rfl rfl (zfitb _ (Or.inl rfl)) (fun _ => rfl) ?_
    refine g_s (pc' := 81) rfl ?_
    refine g_psh (pc' := 82) (v' := .int (-1)) rfl (congrArg Value.int kc_im1) ?_
    refine g_putI (pc' := 85) rfl rfl rfl rfl rfl rfl (fun _ => rfl) ?_
    exact g_retv rfl rfl H
set_option maxHeartbeats 4000000 in
theorem B_X9_state_0 {d : Nat} {w : zm} {F : Int32 → zm → Prop} 
    (H : F (yI w 1031 2) (yuI w 1031 1 (0 : Int32))) :
    zGo d m_X9_state 0 [.ref 1031] [] (yz w) (zKi F) := by
  refine g_s (pc' := 1) rfl ?_
  refine g_psh (pc' := 2) (v' := .int 0) rfl (congrArg Value.int kc_i0) ?_
  refine g_putI (pc' := 5) rfl rfl rfl rfl rfl rfl (fun _ => rfl) ?_
  refine g_s (pc' := 6) rfl ?_
  refine g_getf (pc' := 9) (v := .int (yI w 1031 2)) rfl rfl rfl rfl rfl ?_
  exact g_reti rfl rfl H
set_option maxHeartbeats 4000000 in
theorem B_X9_steps_0 {d : Nat} {w : zm} {F : Int64 → zm → Prop} (a1 : Int32)
    (H : zGo d m_X9_in 0 [.int a1, .int (0 : Int32), .int (5 : Int32)] [] (yz w) (zKi fun v2 w1 => ((v2 = 0 → zGo (d + 1) m_X9_steps 15 [.ref 1031, .int a1] [.int (1 : Int32), .ref 1031] (yz w1) (zKl F)) ∧ (¬ v2 = 0 → zGo (d + 1) m_X9_steps 15 [.ref 1031, .int a1] [.int (0 : Int32), .ref 1031] (yz w1) (zKl F))))) :
    zGo (d + 1) m_X9_steps 0 [.ref 1031, .int a1] [] (yz w) (zKl F) := by
  refine g_s (pc' := 1) rfl ?_
  refine g_s (pc' := 2) rfl ?_
  refine g_psh (pc' := 3) (v' := .int 0) rfl (congrArg Value.int kc_i0) ?_
  refine g_psh (pc' := 4) (v' := .int 5) rfl (congrArg Value.int kc_i5) ?_
  refine g_calli (a := m_X9_in) (as := [.int a1, .int (0 : Int32), .int (5 : Int32)]) (rest := [.ref 1031]) (ls0 := [.int a1, .int (0 : Int32), .int (5 : Int32)]) (pc' := 7) (t_stat rfl (Or.inl rfl) rfl rfl rfl rfl) rfl rfl rfl ?_
  refine zGo.mono H (zKi_mono ?_)
  intro v2 w1 H
  refine g_ifeq (pc' := 10) rfl rfl (fun hc => ?_) (fun hc => ?_)
  · replace H := H.1 hc
    refine g_psh (pc' := 15) (v' := .int 1) rfl (congrArg Value.int kc_i1) ?_
    exact H
  · replace H := H.2 hc
    refine g_psh (pc' := 11) (v' := .int 0) rfl (congrArg Value.int kc_i0) ?_
    refine g_s (pc' := 15) rfl ?_
    exact H
set_option maxHeartbeats 4000000 in
theorem B_X9_steps_15 {d : Nat} {w : zm} {F : Int64 → zm → Prop} (a1 : Int32) (s0 : Int32)
    (H : (((a1.toInt < 0 ∨ 5 < a1.toInt) → F (0 : Int64) (yuI w 1031 1 s0)) ∧ ((a1.toInt = 0) → F (yL w 1031 13) (yuI w 1031 1 s0)) ∧ ((a1.toInt = 1) → F (yL w 1031 14) (yuI w 1031 1 s0)) ∧ ((a1.toInt = 2) → F (yL w 1031 15) (yuI w 1031 1 s0)) ∧ ((a1.toInt = 3) → F (yL w 1031 16) (yuI w 1031 1 s0)) ∧ ((a1.toInt = 4) → F (yL w 1031 17) (yuI w 1031 1 s0)) ∧ ((a1.toInt = 5) → F (yL w 1031 18) (yuI w 1031 1 s0)))) :
    zGo (d + 1) m_X9_steps 15 [.ref 1031, .int a1] [.int s0, .ref 1031] (yz w) (zKl F) := by
  refine g_putI (pc' := 18) rfl rfl rfl rfl rfl rfl (fun _ => rfl) ?_
  refine g_s (pc' := 19) rfl ?_
  refine g_tsw rfl (fun hx => ?_) (fun j hx hy => ?_)
  · replace H := H.1 (by omega)
    show zGo (d + 1) m_X9_steps 86 [.ref 1031, .int a1] [] (yz (yuI w 1031 1 s0)) (zKl F)
    refine g_psh (pc' := 87) (v' := .long 0) rfl (congrArg Value.long kc_l0) ?_
    exact g_retl rfl rfl H
  · have hj : j < 6 := by omega
    match j, hj, hx with
    | 0, _, hx =>
      refine ⟨37, rfl, ?_⟩
      replace H := H.2.1 (by omega)
      show zGo (d + 1) m_X9_steps 56 [.ref 1031, .int a1] [] (yz (yuI w 1031 1 s0)) (zKl F)
      refine g_s (pc' := 57) rfl ?_
      refine g_getf (pc' := 60) (v := .long (yL w 1031 13)) rfl rfl rfl rfl rfl ?_
      exact g_retl rfl rfl H
    | 1, _, hx =>
      refine ⟨42, rfl, ?_⟩
      replace H := H.2.2.1 (by omega)
      show zGo (d + 1) m_X9_steps 61 [.ref 1031, .int a1] [] (yz (yuI w 1031 1 s0)) (zKl F)
      refine g_s (pc' := 62) rfl ?_
      refine g_getf (pc' := 65) (v := .long (yL w 1031 14)) rfl rfl rfl rfl rfl ?_
      exact g_retl rfl rfl H
    | 2, _, hx =>
      refine ⟨47, rfl, ?_⟩
      replace H := H.2.2.2.1 (by omega)
      show zGo (d + 1) m_X9_steps 66 [.ref 1031, .int a1] [] (yz (yuI w 1031 1 s0)) (zKl F)
      refine g_s (pc' := 67) rfl ?_
      refine g_getf (pc' := 70) (v := .long (yL w 1031 15)) rfl rfl rfl rfl rfl ?_
      exact g_retl rfl rfl H
    | 3, _, hx =>
      refine ⟨52, rfl, ?_⟩
      replace H := H.2.2.2.2.1 (by omega)
      show zGo (d + 1) m_X9_steps 71 [.ref 1031, .int a1] [] (yz (yuI w 1031 1 s0)) (zKl F)
      refine g_s (pc' := 72) rfl ?_
      refine g_getf (pc' := 75) (v := .long (yL w 1031 16)) rfl rfl rfl rfl rfl ?_
      exact g_retl rfl rfl H
    | 4, _, hx =>
      refine ⟨57, rfl, ?_⟩
      replace H := H.2.2.2.2.2.1 (by omega)
      show zGo (d + 1) m_X9_steps 76 [.ref 1031, .int a1] [] (yz (yuI w 1031 1 s0)) (zKl F)
      refine g_s (pc' := 77) rfl ?_
      refine g_getf (pc' := 80) (v := .long (yL w 1031 17)) rfl rfl rfl rfl rfl ?_
      exact g_retl rfl rfl H
    | 5, _, hx =>
      refine ⟨62, rfl, ?_⟩
      replace H := H.2.2.2.2.2.2 (by omega)
      show zGo (d + 1) m_X9_steps 81 [.ref 1031, .int a1] [] (yz (yuI w 1031 1 s0)) (zKl F)
      refine g_s (pc' := 82) rfl ?_
      refine g_getf (pc' := 85) (v := .long (yL w 1031 18)) rfl rfl rfl rfl rfl ?_
      exact g_retl rfl rfl H
    | _ + 6, hj, _ => exact absurd hj (by omega)
set_option maxHeartbeats 4000000 in
theorem B_X9_takes_0 {d : Nat} {w : zm} {F : Int32 → zm → Prop} (a0 : Int32)
    (H : ((a0 = 0 → F (0 : Int32) w) ∧ (¬ a0 = 0 → ((a0 = (1 : Int32) → F (0 : Int32) w) ∧ (¬ a0 = (1 : Int32) → ((a0 = (2 : Int32) → F (0 : Int32) w) ∧ (¬ a0 = (2 : Int32) → ((a0 = (21 : Int32) → F (0 : Int32) w) ∧ (¬ a0 = (21 : Int32) → ((a0 < (4 : Int32) → zGo d m_X9_takes 33 [.int a0] [] (yz w) (zKi F)) ∧ (¬ a0 < (4 : Int32) → (((15 : Int32) < a0 → zGo d m_X9_takes 33 [.int a0] [] (yz w) (zKi F)) ∧ (¬ (15 : Int32) < a0 → F (2 : Int32) w))))))))))))) :
    zGo d m_X9_takes 0 [.int a0] [] (yz w) (zKi F) := by
  refine g_s (pc' := 1) rfl ?_
  refine g_ifeq (pc' := 4) rfl rfl (fun hc => ?_) (fun hc => ?_)
  · replace H := H.1 hc
    refine g_psh (pc' := 21) (v' := .int 0) rfl (congrArg Value.int kc_i0) ?_
    exact g_reti rfl rfl H
  · replace H := H.2 hc
    refine g_s (pc' := 5) rfl ?_
    refine g_psh (pc' := 6) (v' := .int 1) rfl (congrArg Value.int kc_i1) ?_
    refine g_iceq (pc' := 9) rfl rfl (fun hc => ?_) (fun hc => ?_)
    · replace H := H.1 hc
      refine g_psh (pc' := 21) (v' := .int 0) rfl (congrArg Value.int kc_i0) ?_
      exact g_reti rfl rfl H
    · replace H := H.2 hc
      refine g_s (pc' := 10) rfl ?_
      refine g_psh (pc' := 11) (v' := .int 2) rfl (congrArg Value.int kc_i2) ?_
      refine g_iceq (pc' := 14) rfl rfl (fun hc => ?_) (fun hc => ?_)
      · replace H := H.1 hc
        refine g_psh (pc' := 21) (v' := .int 0) rfl (congrArg Value.int kc_i0) ?_
        exact g_reti rfl rfl H
      · replace H := H.2 hc
        refine g_s (pc' := 15) rfl ?_
        refine g_psh (pc' := 17) (v' := .int 21) rfl (congrArg Value.int kc_b21) ?_
        refine g_icne (pc' := 20) rfl rfl (fun hc => ?_) (fun hc => ?_)
        · replace H := H.1 hc
          refine g_psh (pc' := 21) (v' := .int 0) rfl (congrArg Value.int kc_i0) ?_
          exact g_reti rfl rfl H
        · replace H := H.2 hc
          refine g_s (pc' := 23) rfl ?_
          refine g_psh (pc' := 24) (v' := .int 4) rfl (congrArg Value.int kc_i4) ?_
          refine g_iclt (pc' := 27) rfl rfl (fun hc => ?_) (fun hc => ?_)
          · replace H := H.1 hc
            exact H
          · replace H := H.2 hc
            refine g_s (pc' := 28) rfl ?_
            refine g_psh (pc' := 30) (v' := .int 15) rfl (congrArg Value.int kc_b15) ?_
            refine g_icle (pc' := 33) rfl rfl (fun hc => ?_) (fun hc => ?_)
            · replace H := H.1 hc
              exact H
            · replace H := H.2 hc
              refine g_psh (pc' := 46) (v' := .int 2) rfl (congrArg Value.int kc_i2) ?_
              refine g_s (pc' := 50) rfl ?_
              exact g_reti rfl rfl H
set_option maxHeartbeats 4000000 in
theorem B_X9_takes_33 {d : Nat} {w : zm} {F : Int32 → zm → Prop} (a0 : Int32)
    (H : ((a0 = (19 : Int32) → F (2 : Int32) w) ∧ (¬ a0 = (19 : Int32) → ((a0 = (26 : Int32) → F (2 : Int32) w) ∧ (¬ a0 = (26 : Int32) → F (1 : Int32) w))))) :
    zGo d m_X9_takes 33 [.int a0] [] (yz w) (zKi F) := by
  refine g_s (pc' := 34) rfl ?_
  refine g_psh (pc' := 36) (v' := .int 19) rfl (congrArg Value.int kc_b19) ?_
  refine g_iceq (pc' := 39) rfl rfl (fun hc => ?_) (fun hc => ?_)
  · replace H := H.1 hc
    refine g_psh (pc' := 46) (v' := .int 2) rfl (congrArg Value.int kc_i2) ?_
    refine g_s (pc' := 50) rfl ?_
    exact g_reti rfl rfl H
  · replace H := H.2 hc
    refine g_s (pc' := 40) rfl ?_
    refine g_psh (pc' := 42) (v' := .int 26) rfl (congrArg Value.int kc_b26) ?_
    refine g_icne (pc' := 45) rfl rfl (fun hc => ?_) (fun hc => ?_)
    · replace H := H.1 hc
      refine g_psh (pc' := 46) (v' := .int 2) rfl (congrArg Value.int kc_i2) ?_
      refine g_s (pc' := 50) rfl ?_
      exact g_reti rfl rfl H
    · replace H := H.2 hc
      refine g_psh (pc' := 50) (v' := .int 1) rfl (congrArg Value.int kc_i1) ?_
      exact g_reti rfl rfl H
set_option maxHeartbeats 4000000 in
theorem B_X9_thrown_0 {d : Nat} {w : zm} {F : Int32 → zm → Prop} 
    (H : F (yI w 1031 1) w) :
    zGo d m_X9_thrown 0 [.ref 1031] [] (yz w) (zKi F) := by
  refine g_s (pc' := 1) rfl ?_
  refine g_getf (pc' := 4) (v := .int (yI w 1031 1)) rfl rfl rfl rfl rfl ?_
  exact g_reti rfl rfl H
set_option maxHeartbeats 4000000 in
theorem B_X9_trace_0 {d : Nat} {w : zm} {F : Int32 → zm → Prop} (a1 : Int32) (a2 : Int32)
    (H : ((a1 < 0 → zGo (d + 1) m_X9_trace 13 [.ref 1031, .int a1, .int a2, zJ] [.int (-1 : Int32)] (yz w) (zKi F)) ∧ (¬ a1 < 0 → zGo d m_X9_traceOf 0 [.ref 1031, .int a1, zJ] [] (yz w) (zKi fun v2 w1 => zGo (d + 1) m_X9_trace 13 [.ref 1031, .int a1, .int a2, zJ] [.int v2] (yz w1) (zKi F))))) :
    zGo (d + 1) m_X9_trace 0 [.ref 1031, .int a1, .int a2, zJ] [] (yz w) (zKi F) := by
  refine g_s (pc' := 1) rfl ?_
  refine g_ifge (pc' := 4) rfl rfl (fun hc => ?_) (fun hc => ?_)
  · replace H := H.1 hc
    refine g_psh (pc' := 5) (v' := .int (-1)) rfl (congrArg Value.int kc_im1) ?_
    refine g_s (pc' := 13) rfl ?_
    exact H
  · replace H := H.2 hc
    refine g_s (pc' := 9) rfl ?_
    refine g_s (pc' := 10) rfl ?_
    refine g_calli (a := m_X9_traceOf) (as := [.ref 1031, .int a1]) (rest := []) (ls0 := [.ref 1031, .int a1, zJ]) (pc' := 13) (t_virt rfl rfl rfl rfl rfl rfl) rfl rfl rfl ?_
    refine zGo.mono H (zKi_mono ?_)
    intro v2 w1 H
    exact H
set_option maxHeartbeats 4000000 in
theorem B_X9_trace_13 {d : Nat} {w : zm} {F : Int32 → zm → Prop} (a1 : Int32) (a2 : Int32) (s0 : Int32)
    (H : ((s0 < 0 → zGo (d + 1) m_X9_trace 34 [.ref 1031, .int a1, .int a2, .int s0] [.int (1 : Int32), .ref 1031] (yz w) (zKi F)) ∧ (¬ s0 < 0 → zGo d m_X9_in 0 [.int a2, .int (0 : Int32), .int (6 : Int32)] [] (yz w) (zKi fun v2 w1 => ((v2 = 0 → zGo (d + 1) m_X9_trace 34 [.ref 1031, .int a1, .int a2, .int s0] [.int (1 : Int32), .ref 1031] (yz w1) (zKi F)) ∧ (¬ v2 = 0 → zGo (d + 1) m_X9_trace 34 [.ref 1031, .int a1, .int a2, .int s0] [.int (0 : Int32), .ref 1031] (yz w1) (zKi F))))))) :
    zGo (d + 1) m_X9_trace 13 [.ref 1031, .int a1, .int a2, zJ] [.int s0] (yz w) (zKi F) := by
  refine g_ist (k := 3) (pc' := 14) (ls' := [.ref 1031, .int a1, .int a2, .int s0]) rfl rfl rfl rfl (zst1_of rfl (Or.inr rfl) rfl) ?_
  refine g_s (pc' := 15) rfl ?_
  refine g_s (pc' := 16) rfl ?_
  refine g_iflt (pc' := 19) rfl rfl (fun hc => ?_) (fun hc => ?_)
  · replace H := H.1 hc
    refine g_psh (pc' := 34) (v' := .int 1) rfl (congrArg Value.int kc_i1) ?_
    exact H
  · replace H := H.2 hc
    refine g_s (pc' := 20) rfl ?_
    refine g_psh (pc' := 21) (v' := .int 0) rfl (congrArg Value.int kc_i0) ?_
    refine g_psh (pc' := 23) (v' := .int 6) rfl (congrArg Value.int kc_b6) ?_
    refine g_calli (a := m_X9_in) (as := [.int a2, .int (0 : Int32), .int (6 : Int32)]) (rest := [.ref 1031]) (ls0 := [.int a2, .int (0 : Int32), .int (6 : Int32)]) (pc' := 26) (t_stat rfl (Or.inl rfl) rfl rfl rfl rfl) rfl rfl rfl ?_
    refine zGo.mono H (zKi_mono ?_)
    intro v2 w1 H
    refine g_ifeq (pc' := 29) rfl rfl (fun hc => ?_) (fun hc => ?_)
    · replace H := H.1 hc
      refine g_psh (pc' := 34) (v' := .int 1) rfl (congrArg Value.int kc_i1) ?_
      exact H
    · replace H := H.2 hc
      refine g_psh (pc' := 30) (v' := .int 0) rfl (congrArg Value.int kc_i0) ?_
      refine g_s (pc' := 34) rfl ?_
      exact H
set_option maxHeartbeats 4000000 in
theorem B_X9_trace_34 {d : Nat} {w : zm} {F : Int32 → zm → Prop} (a1 : Int32) (a2 : Int32) (a3 : Int32) (s0 : Int32)
    (H : ((0 < s0 → F (0 : Int32) (yuI w 1031 1 s0)) ∧ (¬ 0 < s0 → (((a2.toInt < 0 ∨ 5 < a2.toInt) → (zin a3 16) ∧ F (yA w 1048 (Int32.toNatClampNeg a3)) (yuI w 1031 1 s0)) ∧ ((a2.toInt = 0) → (zin a3 16) ∧ F (yA w 1040 (Int32.toNatClampNeg a3)) (yuI w 1031 1 s0)) ∧ ((a2.toInt = 1) → (zin a3 16) ∧ F (yA w 1043 (Int32.toNatClampNeg a3)) (yuI w 1031 1 s0)) ∧ ((a2.toInt = 2) → (zin a3 16) ∧ F (yA w 1044 (Int32.toNatClampNeg a3)) (yuI w 1031 1 s0)) ∧ ((a2.toInt = 3) → (zin a3 16) ∧ F (yA w 1045 (Int32.toNatClampNeg a3)) (yuI w 1031 1 s0)) ∧ ((a2.toInt = 4) → (zin a3 16) ∧ F (yA w 1046 (Int32.toNatClampNeg a3)) (yuI w 1031 1 s0)) ∧ ((a2.toInt = 5) → (zin a3 16) ∧ F (yA w 1047 (Int32.toNatClampNeg a3)) (yuI w 1031 1 s0)))))) :
    zGo (d + 1) m_X9_trace 34 [.ref 1031, .int a1, .int a2, .int a3] [.int s0, .ref 1031] (yz w) (zKi F) := by
  refine g_putI (pc' := 37) rfl rfl rfl rfl rfl rfl (fun _ => rfl) ?_
  refine g_s (pc' := 38) rfl ?_
  refine g_getf (pc' := 41) (v := .int s0) rfl rfl rfl rfl rfl ?_
  refine g_ifle (pc' := 44) rfl rfl (fun hc => ?_) (fun hc => ?_)
  · replace H := H.1 hc
    refine g_psh (pc' := 45) (v' := .int 0) rfl (congrArg Value.int kc_i0) ?_
    exact g_reti rfl rfl H
  · replace H := H.2 hc
    refine g_s (pc' := 47) rfl ?_
    refine g_tsw rfl (fun hx => ?_) (fun j hx hy => ?_)
    · replace H := H.1 (by omega)
      show zGo (d + 1) m_X9_trace 126 [.ref 1031, .int a1, .int a2, .int a3] [] (yz (yuI w 1031 1 s0)) (zKi F)
      refine g_s (pc' := 127) rfl ?_
      refine g_getf (pc' := 130) (v := .ref 1048) rfl rfl rfl rfl rfl ?_
      refine g_s (pc' := 131) rfl ?_
      obtain ⟨hi1, H⟩ := H
      refine g_iald (pc' := 132) rfl rfl rfl rfl rfl (Or.inl rfl) hi1 ?_
      exact g_reti rfl rfl H
    · have hj : j < 6 := by omega
      match j, hj, hx with
      | 0, _, hx =>
        refine ⟨37, rfl, ?_⟩
        replace H := H.2.1 (by omega)
        show zGo (d + 1) m_X9_trace 84 [.ref 1031, .int a1, .int a2, .int a3] [] (yz (yuI w 1031 1 s0)) (zKi F)
        refine g_s (pc' := 85) rfl ?_
        refine g_getf (pc' := 88) (v := .ref 1040) rfl rfl rfl rfl rfl ?_
        refine g_s (pc' := 89) rfl ?_
        obtain ⟨hi2, H⟩ := H
        refine g_iald (pc' := 90) rfl rfl rfl rfl rfl (Or.inl rfl) hi2 ?_
        exact g_reti rfl rfl H
      | 1, _, hx =>
        refine ⟨44, rfl, ?_⟩
        replace H := H.2.2.1 (by omega)
        show zGo (d + 1) m_X9_trace 91 [.ref 1031, .int a1, .int a2, .int a3] [] (yz (yuI w 1031 1 s0)) (zKi F)
        refine g_s (pc' := 92) rfl ?_
        refine g_getf (pc' := 95) (v := .ref 1043) rfl rfl rfl rfl rfl ?_
        refine g_s (pc' := 96) rfl ?_
        obtain ⟨hi3, H⟩ := H
        refine g_iald (pc' := 97) rfl rfl rfl rfl rfl (Or.inl rfl) hi3 ?_
        exact g_reti rfl rfl H
      | 2, _, hx =>
        refine ⟨51, rfl, ?_⟩
        replace H := H.2.2.2.1 (by omega)
        show zGo (d + 1) m_X9_trace 98 [.ref 1031, .int a1, .int a2, .int a3] [] (yz (yuI w 1031 1 s0)) (zKi F)
        refine g_s (pc' := 99) rfl ?_
        refine g_getf (pc' := 102) (v := .ref 1044) rfl rfl rfl rfl rfl ?_
        refine g_s (pc' := 103) rfl ?_
        obtain ⟨hi4, H⟩ := H
        refine g_iald (pc' := 104) rfl rfl rfl rfl rfl (Or.inl rfl) hi4 ?_
        exact g_reti rfl rfl H
      | 3, _, hx =>
        refine ⟨58, rfl, ?_⟩
        replace H := H.2.2.2.2.1 (by omega)
        show zGo (d + 1) m_X9_trace 105 [.ref 1031, .int a1, .int a2, .int a3] [] (yz (yuI w 1031 1 s0)) (zKi F)
        refine g_s (pc' := 106) rfl ?_
        refine g_getf (pc' := 109) (v := .ref 1045) rfl rfl rfl rfl rfl ?_
        refine g_s (pc' := 110) rfl ?_
        obtain ⟨hi5, H⟩ := H
        refine g_iald (pc' := 111) rfl rfl rfl rfl rfl (Or.inl rfl) hi5 ?_
        exact g_reti rfl rfl H
      | 4, _, hx =>
        refine ⟨65, rfl, ?_⟩
        replace H := H.2.2.2.2.2.1 (by omega)
        show zGo (d + 1) m_X9_trace 112 [.ref 1031, .int a1, .int a2, .int a3] [] (yz (yuI w 1031 1 s0)) (zKi F)
        refine g_s (pc' := 113) rfl ?_
        refine g_getf (pc' := 116) (v := .ref 1046) rfl rfl rfl rfl rfl ?_
        refine g_s (pc' := 117) rfl ?_
        obtain ⟨hi6, H⟩ := H
        refine g_iald (pc' := 118) rfl rfl rfl rfl rfl (Or.inl rfl) hi6 ?_
        exact g_reti rfl rfl H
      | 5, _, hx =>
        refine ⟨72, rfl, ?_⟩
        replace H := H.2.2.2.2.2.2 (by omega)
        show zGo (d + 1) m_X9_trace 119 [.ref 1031, .int a1, .int a2, .int a3] [] (yz (yuI w 1031 1 s0)) (zKi F)
        refine g_s (pc' := 120) rfl ?_
        refine g_getf (pc' := 123) (v := .ref 1047) rfl rfl rfl rfl rfl ?_
        refine g_s (pc' := 124) rfl ?_
        obtain ⟨hi7, H⟩ := H
        refine g_iald (pc' := 125) rfl rfl rfl rfl rfl (Or.inl rfl) hi7 ?_
        exact g_reti rfl rfl H
      | _ + 6, hj, _ => exact absurd hj (by omega)
set_option maxHeartbeats 4000000 in
theorem B_X9_traceAt_0 {d : Nat} {w : zm} {F : Int32 → zm → Prop} (a1 : Int32)
    (H : zGo d m_X9_traceMany 0 [.ref 1031, zJ, zJ] [] (yz w) (zKi fun v2 w1 => zGo d m_X9_in 0 [.int a1, .int (0 : Int32), .int (v2 - (1 : Int32))] [] (yz w1) (zKi fun v4 w3 => ((v4 = 0 → zGo (d + 1) m_X9_traceAt 27 [.ref 1031, .int a1, .int a1, .int (0 : Int32)] [] (yz (yuI w3 1031 1 (1 : Int32))) (zKi F)) ∧ (¬ v4 = 0 → zGo (d + 1) m_X9_traceAt 27 [.ref 1031, .int a1, .int a1, .int (0 : Int32)] [] (yz (yuI w3 1031 1 (0 : Int32))) (zKi F)))))) :
    zGo (d + 1) m_X9_traceAt 0 [.ref 1031, .int a1, zJ, zJ] [] (yz w) (zKi F) := by
  refine g_s (pc' := 1) rfl ?_
  refine g_s (pc' := 2) rfl ?_
  refine g_psh (pc' := 3) (v' := .int 0) rfl (congrArg Value.int kc_i0) ?_
  refine g_s (pc' := 4) rfl ?_
  refine g_calli (a := m_X9_traceMany) (as := [.ref 1031]) (rest := [.int (0 : Int32), .int a1, .ref 1031]) (ls0 := [.ref 1031, zJ, zJ]) (pc' := 7) (t_virt rfl rfl rfl rfl rfl rfl) rfl rfl rfl ?_
  refine zGo.mono H (zKi_mono ?_)
  intro v2 w1 H
  refine g_psh (pc' := 8) (v' := .int 1) rfl (congrArg Value.int kc_i1) ?_
  refine g_s (pc' := 9) (st' := [.int (v2 - (1 : Int32)), .int (0 : Int32), .int a1, .ref 1031]) rfl ?_
  refine g_calli (a := m_X9_in) (as := [.int a1, .int (0 : Int32), .int (v2 - (1 : Int32))]) (rest := [.ref 1031]) (ls0 := [.int a1, .int (0 : Int32), .int (v2 - (1 : Int32))]) (pc' := 12) (t_stat rfl (Or.inl rfl) rfl rfl rfl rfl) rfl rfl rfl ?_
  refine zGo.mono H (zKi_mono ?_)
  intro v4 w3 H
  refine g_ifeq (pc' := 15) rfl rfl (fun hc => ?_) (fun hc => ?_)
  · replace H := H.1 hc
    refine g_psh (pc' := 20) (v' := .int 1) rfl (congrArg Value.int kc_i1) ?_
    refine g_putI (pc' := 23) rfl rfl rfl rfl rfl rfl (fun _ => rfl) ?_
    refine g_s (pc' := 24) rfl ?_
    refine g_ist (k := 2) (pc' := 25) (ls' := [.ref 1031, .int a1, .int a1, zJ]) rfl rfl rfl rfl (zst1_of rfl (Or.inr rfl) rfl) ?_
    refine g_psh (pc' := 26) (v' := .int 0) rfl (congrArg Value.int kc_i0) ?_
    refine g_ist (k := 3) (pc' := 27) (ls' := [.ref 1031, .int a1, .int a1, .int (0 : Int32)]) rfl rfl rfl rfl (zst1_of rfl (Or.inr rfl) rfl) ?_
    exact H
  · replace H := H.2 hc
    refine g_psh (pc' := 16) (v' := .int 0) rfl (congrArg Value.int kc_i0) ?_
    refine g_s (pc' := 20) rfl ?_
    refine g_putI (pc' := 23) rfl rfl rfl rfl rfl rfl (fun _ => rfl) ?_
    refine g_s (pc' := 24) rfl ?_
    refine g_ist (k := 2) (pc' := 25) (ls' := [.ref 1031, .int a1, .int a1, zJ]) rfl rfl rfl rfl (zst1_of rfl (Or.inr rfl) rfl) ?_
    refine g_psh (pc' := 26) (v' := .int 0) rfl (congrArg Value.int kc_i0) ?_
    refine g_ist (k := 3) (pc' := 27) (ls' := [.ref 1031, .int a1, .int a1, .int (0 : Int32)]) rfl rfl rfl rfl (zst1_of rfl (Or.inr rfl) rfl) ?_
    exact H
set_option maxHeartbeats 4000000 in
theorem B_X9_traceAt_27 {d : Nat} {w : zm} {F : Int32 → zm → Prop} (a1 : Int32) (a2 : Int32) (a3 : Int32)
    (H : ((a3 < (yI w 1031 3) → (((yI w 1031 1) = 0 → zGo d m_X9_traceOf 0 [.ref 1031, .int a3, zJ] [] (yz w) (zKi fun v2 w1 => ((v2 < 0 → zGo (d + 1) m_X9_traceAt 27 [.ref 1031, .int a1, .int a2, .int (a3 + 1)] [] (yz w1) (zKi F)) ∧ (¬ v2 < 0 → ((a2 = 0 → F a3 w1) ∧ (¬ a2 = 0 → zGo (d + 1) m_X9_traceAt 27 [.ref 1031, .int a1, .int (a2 + (-1)), .int (a3 + 1)] [] (yz w1) (zKi F))))))) ∧ (¬ (yI w 1031 1) = 0 → F (0 : Int32) w))) ∧ (¬ a3 < (yI w 1031 3) → F (0 : Int32) w))) :
    zGo (d + 1) m_X9_traceAt 27 [.ref 1031, .int a1, .int a2, .int a3] [] (yz w) (zKi F) := by
  refine g_s (pc' := 28) rfl ?_
  refine g_s (pc' := 29) rfl ?_
  refine g_getf (pc' := 32) (v := .int (yI w 1031 3)) rfl rfl rfl rfl rfl ?_
  refine g_icge (pc' := 35) rfl rfl (fun hc => ?_) (fun hc => ?_)
  · replace H := H.1 hc
    refine g_s (pc' := 36) rfl ?_
    refine g_getf (pc' := 39) (v := .int (yI w 1031 1)) rfl rfl rfl rfl rfl ?_
    refine g_ifne (pc' := 42) rfl rfl (fun hc => ?_) (fun hc => ?_)
    · replace H := H.1 hc
      refine g_s (pc' := 43) rfl ?_
      refine g_s (pc' := 44) rfl ?_
      refine g_calli (a := m_X9_traceOf) (as := [.ref 1031, .int a3]) (rest := []) (ls0 := [.ref 1031, .int a3, zJ]) (pc' := 47) (t_virt rfl rfl rfl rfl rfl rfl) rfl rfl rfl ?_
      refine zGo.mono H (zKi_mono ?_)
      intro v2 w1 H
      refine g_ifge (pc' := 50) rfl rfl (fun hc => ?_) (fun hc => ?_)
      · replace H := H.1 hc
        refine g_s (pc' := 62) rfl ?_
        refine g_inc (pc' := 65) (ls' := [.ref 1031, .int a1, .int a2, .int (a3 + 1)]) rfl rfl rfl kc_i1 (zst1_of rfl (Or.inr rfl) rfl) ?_
        refine g_s (pc' := 27) rfl ?_
        exact H
      · replace H := H.2 hc
        refine g_s (pc' := 54) rfl ?_
        refine g_ifne (pc' := 57) rfl rfl (fun hc => ?_) (fun hc => ?_)
        · replace H := H.1 hc
          refine g_s (pc' := 58) rfl ?_
          exact g_reti rfl rfl H
        · replace H := H.2 hc
          refine g_inc (pc' := 62) (ls' := [.ref 1031, .int a1, .int (a2 + (-1)), .int a3]) rfl rfl rfl kc_im1 (zst1_of rfl (Or.inr rfl) rfl) ?_
          refine g_inc (pc' := 65) (ls' := [.ref 1031, .int a1, .int (a2 + (-1)), .int (a3 + 1)]) rfl rfl rfl kc_i1 (zst1_of rfl (Or.inr rfl) rfl) ?_
          refine g_s (pc' := 27) rfl ?_
          exact H
    · replace H := H.2 hc
      refine g_psh (pc' := 69) (v' := .int 0) rfl (congrArg Value.int kc_i0) ?_
      exact g_reti rfl rfl H
  · replace H := H.2 hc
    refine g_psh (pc' := 69) (v' := .int 0) rfl (congrArg Value.int kc_i0) ?_
    exact g_reti rfl rfl H
set_option maxHeartbeats 4000000 in
theorem B_X9_traceMany_0 {d : Nat} {w : zm} {F : Int32 → zm → Prop} 
    (H : zGo d m_X9_traceMany 4 [.ref 1031, .int (0 : Int32), .int (0 : Int32)] [] (yz w) (zKi F)) :
    zGo d m_X9_traceMany 0 [.ref 1031, zJ, zJ] [] (yz w) (zKi F) := by
  refine g_psh (pc' := 1) (v' := .int 0) rfl (congrArg Value.int kc_i0) ?_
  refine g_ist (k := 1) (pc' := 2) (ls' := [.ref 1031, .int (0 : Int32), zJ]) rfl rfl rfl rfl (zst1_of rfl (Or.inr rfl) rfl) ?_
  refine g_psh (pc' := 3) (v' := .int 0) rfl (congrArg Value.int kc_i0) ?_
  refine g_ist (k := 2) (pc' := 4) (ls' := [.ref 1031, .int (0 : Int32), .int (0 : Int32)]) rfl rfl rfl rfl (zst1_of rfl (Or.inr rfl) rfl) ?_
  exact H
set_option maxHeartbeats 4000000 in
theorem B_X9_traceMany_4 {d : Nat} {w : zm} {F : Int32 → zm → Prop} (a1 : Int32) (a2 : Int32)
    (H : ((a2 < (16 : Int32) → (zin a2 16) ∧ (((yA w 1039 (Int32.toNatClampNeg a2)) < 0 → zGo d m_X9_traceMany 4 [.ref 1031, .int (a1 + (0 : Int32)), .int (a2 + 1)] [] (yz w) (zKi F)) ∧ (¬ (yA w 1039 (Int32.toNatClampNeg a2)) < 0 → zGo d m_X9_traceMany 4 [.ref 1031, .int (a1 + (1 : Int32)), .int (a2 + 1)] [] (yz w) (zKi F)))) ∧ (¬ a2 < (16 : Int32) → F a1 w))) :
    zGo d m_X9_traceMany 4 [.ref 1031, .int a1, .int a2] [] (yz w) (zKi F) := by
  refine g_s (pc' := 5) rfl ?_
  refine g_psh (pc' := 7) (v' := .int 16) rfl (congrArg Value.int kc_b16) ?_
  refine g_icge (pc' := 10) rfl rfl (fun hc => ?_) (fun hc => ?_)
  · replace H := H.1 hc
    refine g_s (pc' := 11) rfl ?_
    refine g_s (pc' := 12) rfl ?_
    refine g_getf (pc' := 15) (v := .ref 1039) rfl rfl rfl rfl rfl ?_
    refine g_s (pc' := 16) rfl ?_
    obtain ⟨hi1, H⟩ := H
    refine g_iald (pc' := 17) rfl rfl rfl rfl rfl (Or.inl rfl) hi1 ?_
    refine g_iflt (pc' := 20) rfl rfl (fun hc => ?_) (fun hc => ?_)
    · replace H := H.1 hc
      refine g_psh (pc' := 25) (v' := .int 0) rfl (congrArg Value.int kc_i0) ?_
      refine g_s (pc' := 26) (st' := [.int (a1 + (0 : Int32))]) rfl ?_
      refine g_ist (k := 1) (pc' := 27) (ls' := [.ref 1031, .int (a1 + (0 : Int32)), .int a2]) rfl rfl rfl rfl (zst1_of rfl (Or.inr rfl) rfl) ?_
      refine g_inc (pc' := 30) (ls' := [.ref 1031, .int (a1 + (0 : Int32)), .int (a2 + 1)]) rfl rfl rfl kc_i1 (zst1_of rfl (Or.inr rfl) rfl) ?_
      refine g_s (pc' := 4) rfl ?_
      exact H
    · replace H := H.2 hc
      refine g_psh (pc' := 21) (v' := .int 1) rfl (congrArg Value.int kc_i1) ?_
      refine g_s (pc' := 25) rfl ?_
      refine g_s (pc' := 26) (st' := [.int (a1 + (1 : Int32))]) rfl ?_
      refine g_ist (k := 1) (pc' := 27) (ls' := [.ref 1031, .int (a1 + (1 : Int32)), .int a2]) rfl rfl rfl rfl (zst1_of rfl (Or.inr rfl) rfl) ?_
      refine g_inc (pc' := 30) (ls' := [.ref 1031, .int (a1 + (1 : Int32)), .int (a2 + 1)]) rfl rfl rfl kc_i1 (zst1_of rfl (Or.inr rfl) rfl) ?_
      refine g_s (pc' := 4) rfl ?_
      exact H
  · replace H := H.2 hc
    refine g_s (pc' := 34) rfl ?_
    exact g_reti rfl rfl H
set_option maxHeartbeats 4000000 in
theorem B_X9_traceOf_0 {d : Nat} {w : zm} {F : Int32 → zm → Prop} (a1 : Int32)
    (H : zGo d m_X9_traceOf 2 [.ref 1031, .int a1, .int (0 : Int32)] [] (yz w) (zKi F)) :
    zGo d m_X9_traceOf 0 [.ref 1031, .int a1, zJ] [] (yz w) (zKi F) := by
  refine g_psh (pc' := 1) (v' := .int 0) rfl (congrArg Value.int kc_i0) ?_
  refine g_ist (k := 2) (pc' := 2) (ls' := [.ref 1031, .int a1, .int (0 : Int32)]) rfl rfl rfl rfl (zst1_of rfl (Or.inr rfl) rfl) ?_
  exact H
set_option maxHeartbeats 4000000 in
theorem B_X9_traceOf_2 {d : Nat} {w : zm} {F : Int32 → zm → Prop} (a1 : Int32) (a2 : Int32)
    (H : ((a2 < (16 : Int32) → (zin a2 16) ∧ (((yA w 1039 (Int32.toNatClampNeg a2)) = a1 → F a2 w) ∧ (¬ (yA w 1039 (Int32.toNatClampNeg a2)) = a1 → zGo d m_X9_traceOf 2 [.ref 1031, .int a1, .int (a2 + 1)] [] (yz w) (zKi F)))) ∧ (¬ a2 < (16 : Int32) → F (-1 : Int32) w))) :
    zGo d m_X9_traceOf 2 [.ref 1031, .int a1, .int a2] [] (yz w) (zKi F) := by
  refine g_s (pc' := 3) rfl ?_
  refine g_psh (pc' := 5) (v' := .int 16) rfl (congrArg Value.int kc_b16) ?_
  refine g_icge (pc' := 8) rfl rfl (fun hc => ?_) (fun hc => ?_)
  · replace H := H.1 hc
    refine g_s (pc' := 9) rfl ?_
    refine g_getf (pc' := 12) (v := .ref 1039) rfl rfl rfl rfl rfl ?_
    refine g_s (pc' := 13) rfl ?_
    obtain ⟨hi1, H⟩ := H
    refine g_iald (pc' := 14) rfl rfl rfl rfl rfl (Or.inl rfl) hi1 ?_
    refine g_s (pc' := 15) rfl ?_
    refine g_icne (pc' := 18) rfl rfl (fun hc => ?_) (fun hc => ?_)
    · replace H := H.1 hc
      refine g_s (pc' := 19) rfl ?_
      exact g_reti rfl rfl H
    · replace H := H.2 hc
      refine g_inc (pc' := 23) (ls' := [.ref 1031, .int a1, .int (a2 + 1)]) rfl rfl rfl kc_i1 (zst1_of rfl (Or.inr rfl) rfl) ?_
      refine g_s (pc' := 2) rfl ?_
      exact H
  · replace H := H.2 hc
    refine g_psh (pc' := 27) (v' := .int (-1)) rfl (congrArg Value.int kc_im1) ?_
    exact g_reti rfl rfl H
set_option maxHeartbeats 4000000 in
theorem B_X9_traces_0 {d : Nat} {w : zm} {F : Int32 → zm → Prop} 
    (H : zGo d m_X9_traceMany 0 [.ref 1031, zJ, zJ] [] (yz (yuI w 1031 1 (0 : Int32))) (zKi fun v2 w1 => F v2 w1)) :
    zGo (d + 1) m_X9_traces 0 [.ref 1031] [] (yz w) (zKi F) := by
  refine g_s (pc' := 1) rfl ?_
  refine g_psh (pc' := 2) (v' := .int 0) rfl (congrArg Value.int kc_i0) ?_
  refine g_putI (pc' := 5) rfl rfl rfl rfl rfl rfl (fun _ => rfl) ?_
  refine g_s (pc' := 6) rfl ?_
  refine g_calli (a := m_X9_traceMany) (as := [.ref 1031]) (rest := []) (ls0 := [.ref 1031, zJ, zJ]) (pc' := 9) (t_virt rfl rfl rfl rfl rfl rfl) rfl rfl rfl ?_
  refine zGo.mono H (zKi_mono ?_)
  intro v2 w1 H
  exact g_reti rfl rfl H
set_option maxHeartbeats 4000000 in
theorem B_X9_value_0 {d : Nat} {w : zm} {F : Int32 → zm → Prop} 
    (H : (zin (yI w 1031 55) 400) ∧ (zin (yI w 1031 55) 400) ∧ F (yI w 1031 55) (yuI (yuA (yuA w 1064 (Int32.toNatClampNeg (yI w 1031 55)) (0 : Int32)) 1066 (Int32.toNatClampNeg (yI w 1031 55)) (0 : Int32)) 1031 55 ((yI w 1031 55) + (1 : Int32)))) :
    zGo d m_X9_value 0 [.ref 1031] [] (yz w) (zKi F) := by
  refine g_s (pc' := 1) rfl ?_
  refine g_getf (pc' := 4) (v := .ref 1064) rfl rfl rfl rfl rfl ?_
  refine g_s (pc' := 5) rfl ?_
  refine g_getf (pc' := 8) (v := .int (yI w 1031 55)) rfl rfl rfl rfl rfl ?_
  refine g_psh (pc' := 9) (v' := .int 0) rfl (congrArg Value.int kc_i0) ?_
  obtain ⟨hi1, H⟩ := H
  refine g_zast (pc' := 10) rfl rfl rfl rfl rfl rfl hi1 kz_0 ?_
  refine g_s (pc' := 11) rfl ?_
  refine g_getf (pc' := 14) (v := .ref 1066) rfl rfl rfl rfl rfl ?_
  refine g_s (pc' := 15) rfl ?_
  refine g_getf (pc' := 18) (v := .int (yI w 1031 55)) rfl rfl rfl rfl rfl ?_
  refine g_psh (pc' := 19) (v' := .int 0) rfl (congrArg Value.int kc_i0) ?_
  obtain ⟨hi2, H⟩ := H
  refine g_zast (pc' := 20) rfl rfl rfl rfl rfl rfl hi2 kz_0 ?_
  refine g_s (pc' := 21) rfl ?_
  refine g_s (pc' := 22) rfl ?_
  refine g_getf (pc' := 25) (v := .int (yI w 1031 55)) rfl rfl rfl rfl rfl ?_
  refine g_s (pc' := 26) rfl ?_
  refine g_psh (pc' := 27) (v' := .int 1) rfl (congrArg Value.int kc_i1) ?_
  refine g_s (pc' := 28) (st' := [.int ((yI w 1031 55) + (1 : Int32)), .ref 1031, .int (yI w 1031 55)]) rfl ?_
  refine g_putI (pc' := 31) rfl rfl rfl rfl rfl rfl (fun _ => rfl) ?_
  exact g_reti rfl rfl H
set_option maxHeartbeats 4000000 in
theorem B_X9_verify_0 {d : Nat} {w : zm} {F : Int32 → zm → Prop} 
    (H : zGo d m_X9_judge 0 [.ref 1031, zJ, zJ] [] (yz (yuI (yuI w 1031 1 (0 : Int32)) 1031 5 (-1 : Int32))) (zKi fun v2 w1 => ((v2 = 0 → (((yI w1 1031 2) = 0 → F v2 (yuI w1 1031 2 (1 : Int32))) ∧ (¬ (yI w1 1031 2) = 0 → F v2 w1))) ∧ (¬ v2 = 0 → F v2 w1)))) :
    zGo (d + 1) m_X9_verify 0 [.ref 1031, zJ] [] (yz w) (zKi F) := by
  refine g_s (pc' := 1) rfl ?_
  refine g_psh (pc' := 2) (v' := .int 0) rfl (congrArg Value.int kc_i0) ?_
  refine g_putI (pc' := 5) rfl rfl rfl rfl rfl rfl (fun _ => rfl) ?_
  refine g_s (pc' := 6) rfl ?_
  refine g_psh (pc' := 7) (v' := .int (-1)) rfl (congrArg Value.int kc_im1) ?_
  refine g_putI (pc' := 10) rfl rfl rfl rfl rfl rfl (fun _ => rfl) ?_
  refine g_s (pc' := 11) rfl ?_
  refine g_calli (a := m_X9_judge) (as := [.ref 1031]) (rest := []) (ls0 := [.ref 1031, zJ, zJ]) (pc' := 14) (t_virt rfl rfl rfl rfl rfl rfl) rfl rfl rfl ?_
  refine zGo.mono H (zKi_mono ?_)
  intro v2 w1 H
  refine g_ist (k := 1) (pc' := 15) (ls' := [.ref 1031, .int v2]) rfl rfl rfl rfl (zst1_of rfl (Or.inr rfl) rfl) ?_
  refine g_s (pc' := 16) rfl ?_
  refine g_ifne (pc' := 19) rfl rfl (fun hc => ?_) (fun hc => ?_)
  · replace H := H.1 hc
    refine g_s (pc' := 20) rfl ?_
    refine g_getf (pc' := 23) (v := .int (yI w1 1031 2)) rfl rfl rfl rfl rfl ?_
    refine g_ifne (pc' := 26) rfl rfl (fun hc => ?_) (fun hc => ?_)
    · replace H := H.1 hc
      refine g_s (pc' := 27) rfl ?_
      refine g_psh (pc' := 28) (v' := .int 1) rfl (congrArg Value.int kc_i1) ?_
      refine g_putI (pc' := 31) rfl rfl rfl rfl rfl rfl (fun _ => rfl) ?_
      refine g_s (pc' := 32) rfl ?_
      exact g_reti rfl rfl H
    · replace H := H.2 hc
      refine g_s (pc' := 32) rfl ?_
      exact g_reti rfl rfl H
  · replace H := H.2 hc
    refine g_s (pc' := 32) rfl ?_
    exact g_reti rfl rfl H
