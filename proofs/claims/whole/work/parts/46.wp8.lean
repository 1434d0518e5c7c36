/-! what is enough for a run from here, of each method: printed by gen_wp.py out of the table -/
set_option maxHeartbeats 4000000 in
theorem B_X8_address_0 {d : Nat} {w : zm} {F : Int32 → zm → Prop} 
    (H : F (yI w 1007 6) w) :
    zGo d m_X8_address 0 [.ref 1000] [] (yz w) (zKi F) := by
  refine g_s (pc' := 1) rfl ?_
  refine g_getf (pc' := 4) (v := .ref 1007) rfl rfl rfl rfl rfl ?_
  refine g_getf (pc' := 7) (v := .int (yI w 1007 6)) rfl rfl rfl rfl rfl ?_
  exact g_reti rfl rfl H
set_option maxHeartbeats 4000000 in
theorem B_X8_beginRecording_0 {d : Nat} {w : zm} {F : zm → Prop} (a1 : Int32) (a2 : Int32)
    (H : zGo d m_X4_begin 0 [.ref 1025, .int a1, .int a2, .int (yI w 1009 1)] [] (yz (yuL w 1000 11 ((yL w 1000 11) + (1 : Int64)))) (zKv fun w1 => F w1)) :
    zGo (d + 1) m_X8_beginRecording 0 [.ref 1000, .int a1, .int a2] [] (yz w) (zKv F) := by
  refine g_s (pc' := 1) rfl ?_
  refine g_s (pc' := 2) rfl ?_
  refine g_getf (pc' := 5) (v := .long (yL w 1000 11)) rfl rfl rfl rfl rfl ?_
  refine g_psh (pc' := 6) (v' := .long 1) rfl (congrArg Value.long kc_l1) ?_
  refine g_s (pc' := 7) (st' := [.long ((yL w 1000 11) + (1 : Int64)), .ref 1000]) rfl ?_
  refine g_putL (pc' := 10) rfl rfl rfl rfl rfl rfl (fun _ => rfl) ?_
  refine g_s (pc' := 11) rfl ?_
  refine g_getf (pc' := 14) (v := .ref 1025) rfl rfl rfl rfl rfl ?_
  refine g_s (pc' := 15) rfl ?_
  refine g_s (pc' := 16) rfl ?_
  refine g_s (pc' := 17) rfl ?_
  refine g_getf (pc' := 20) (v := .ref 1007) rfl rfl rfl rfl rfl ?_
  refine g_getf (pc' := 23) (v := .ref 1009) rfl rfl rfl rfl rfl ?_
  refine g_getf (pc' := 26) (v := .int (yI w 1009 1)) rfl rfl rfl rfl rfl ?_
  refine g_callv (a := m_X4_begin) (as := [.ref 1025, .int a1, .int a2, .int (yI w 1009 1)]) (rest := []) (ls0 := [.ref 1025, .int a1, .int a2, .int (yI w 1009 1)]) (pc' := 29) (t_virt rfl rfl rfl rfl rfl rfl) rfl rfl rfl ?_
  refine zGo.mono H (zKv_mono ?_)
  intro w1 H
  exact g_retv rfl rfl H
set_option maxHeartbeats 4000000 in
theorem B_X8_bridgeComesRound_0 {d : Nat} {w : zm} {F : Int32 → zm → Prop} (p1 : Nat) (a2 : Int32) (b3 : Int64)
    (H : ((a2 < 0 → F (0 : Int32) w) ∧ (¬ a2 < 0 → ((a2 < (48 : Int32) → (yT w p1) ∧ (zin a2 48) ∧ (zin a2 48) ∧ zGo d m_X5_bridgeOf 0 [.ref p1, .int a2, zJ] [] (yz (yuA w (p1 + 6) (Int32.toNatClampNeg a2) ((yA w (p1 + 6) (Int32.toNatClampNeg a2)) + (1 : Int32)))) (zKr fun o5 w4 => ((o5 = none → (yT w4 p1) ∧ zGo d m_X5_wantsBridge 0 [.ref p1, .int a2, .int (yI w4 1000 0)] [] (yz w4) (zKi fun v9 w8 => ((v9 = 0 → F (0 : Int32) w8) ∧ (¬ v9 = 0 → (yT w8 p1) ∧ zGo d m_X8_beginRecording 0 [.ref 1000, .int (yI w8 p1 5), .int a2] [] (yz w8) (zKv fun w11 => F (0 : Int32) w11))))) ∧ (∀ q6, o5 = some q6 → (yP w4 q6) ∧ ((0 < (lg_cmp (Int32.toInt64 (yI w4 q6 4)) (b3 - (yL w4 1007 8))) → F (0 : Int32) w4) ∧ (¬ 0 < (lg_cmp (Int32.toInt64 (yI w4 q6 4)) (b3 - (yL w4 1007 8))) → zGo d m_X1_follow 0 [.ref 1007, .ref q6, zJ, zJ, zJ, zJ] [] (yz w4) (zKi fun v14 w13 => (yP w13 q6) ∧ ((v14 = (yI w13 q6 4) → F (1 : Int32) (yuL w13 1000 8 ((yL w13 1000 8) + (Int32.toInt64 v14)))) ∧ (¬ v14 = (yI w13 q6 4) → F (0 : Int32) (yuL w13 1000 8 ((yL w13 1000 8) + (Int32.toInt64 v14)))))))))))) ∧ (¬ a2 < (48 : Int32) → F (0 : Int32) w))))) :
    zGo (d + 1) m_X8_bridgeComesRound 0 [.ref 1000, .ref p1, .int a2, .long b3, zJ, zJ, zJ] [] (yz w) (zKi F) := by
  refine g_s (pc' := 1) rfl ?_
  refine g_iflt (pc' := 4) rfl rfl (fun hc => ?_) (fun hc => ?_)
  · replace H := H.1 hc
    refine g_psh (pc' := 11) (v' := .int 0) rfl (congrArg Value.int kc_i0) ?_
    exact g_reti rfl (zbool _ (Or.inl rfl)) H
  · replace H := H.2 hc
    refine g_s (pc' := 5) rfl ?_
    refine g_psh (pc' := 7) (v' := .int 48) rfl (congrArg Value.int kc_b48) ?_
    refine g_iclt (pc' := 10) rfl rfl (fun hc => ?_) (fun hc => ?_)
    · replace H := H.1 hc
      refine g_s (pc' := 13) rfl ?_
      obtain ⟨hs1, H⟩ := H
      refine g_getf (pc' := 16) (v := .ref (p1 + 6)) rfl rfl (yT_k hs1) rfl (congrArg va_rf (yT_r1 hs1)) ?_
      refine g_s (pc' := 17) rfl ?_
      refine g_s (pc' := 18) rfl ?_
      obtain ⟨hi2, H⟩ := H
      refine g_iald (pc' := 19) rfl rfl rfl rfl (yT_k1 hs1) (Or.inl rfl) hi2 ?_
      refine g_psh (pc' := 20) (v' := .int 1) rfl (congrArg Value.int kc_i1) ?_
      refine g_s (pc' := 21) (st' := [.int ((yA w (p1 + 6) (Int32.toNatClampNeg a2)) + (1 : Int32)), .int a2, .ref (p1 + 6)]) rfl ?_
      obtain ⟨hi3, H⟩ := H
      refine g_iast (pc' := 22) rfl rfl rfl rfl (yT_k1 hs1) (yT_b1 hs1) hi3 ?_
      refine g_s (pc' := 23) rfl ?_
      refine g_s (pc' := 24) rfl ?_
      refine g_callr (a := m_X5_bridgeOf) (as := [.ref p1, .int a2]) (rest := []) (ls0 := [.ref p1, .int a2, zJ]) (pc' := 27) (t_virt rfl rfl rfl rfl rfl (yT_k hs1)) rfl rfl rfl ?_
      refine zGo.mono H (zKr_mono ?_)
      intro o5 w4 H
      refine g_ast (k := 5) (pc' := 29) (o := o5) (ls' := [.ref 1000, .ref p1, .int a2, .long b3, zJ, va_rf o5, zJ]) rfl rfl rfl rfl (zst1_of rfl (Or.inr rfl) rfl) ?_
      refine g_aldo (k := 5) (pc' := 31) (o := o5) rfl rfl rfl rfl rfl ?_
      cases o5 with
      | none =>
        refine g_ifnonnull (pc' := 34) (o := none) rfl rfl (fun _ => ?_) (fun q h9 => by cases h9)
        replace H := H.1 rfl
        refine g_s (pc' := 35) rfl ?_
        refine g_s (pc' := 36) rfl ?_
        refine g_s (pc' := 37) rfl ?_
        refine g_getf (pc' := 40) (v := .int (yI w4 1000 0)) rfl rfl rfl rfl rfl ?_
        obtain ⟨hs7, H⟩ := H
        refine g_calli (a := m_X5_wantsBridge) (as := [.ref p1, .int a2, .int (yI w4 1000 0)]) (rest := []) (ls0 := [.ref p1, .int a2, .int (yI w4 1000 0)]) (pc' := 43) (t_virt rfl rfl rfl rfl rfl (yT_k hs7)) rfl rfl rfl ?_
        refine zGo.mono H (zKi_mono ?_)
        intro v9 w8 H
        refine g_ifeq (pc' := 46) rfl rfl (fun hc => ?_) (fun hc => ?_)
        · replace H := H.1 hc
          refine g_psh (pc' := 56) (v' := .int 0) rfl (congrArg Value.int kc_i0) ?_
          exact g_reti rfl (zbool _ (Or.inl rfl)) H
        · replace H := H.2 hc
          refine g_s (pc' := 47) rfl ?_
          refine g_s (pc' := 48) rfl ?_
          obtain ⟨hs10, H⟩ := H
          refine g_getf (pc' := 51) (v := .int (yI w8 p1 5)) rfl rfl (yT_k hs10) rfl rfl ?_
          refine g_s (pc' := 52) rfl ?_
          refine g_callv (a := m_X8_beginRecording) (as := [.ref 1000, .int (yI w8 p1 5), .int a2]) (rest := []) (ls0 := [.ref 1000, .int (yI w8 p1 5), .int a2]) (pc' := 55) (t_virt rfl rfl rfl rfl rfl rfl) rfl rfl rfl ?_
          refine zGo.mono H (zKv_mono ?_)
          intro w11 H
          refine g_psh (pc' := 56) (v' := .int 0) rfl (congrArg Value.int kc_i0) ?_
          exact g_reti rfl (zbool _ (Or.inl rfl)) H
      | some q6 =>
        refine g_ifnonnull (pc' := 34) (o := some q6) rfl rfl (fun h9 => by cases h9) (fun _ _ => ?_)
        replace H := H.2 q6 rfl
        refine g_s (pc' := 59) rfl ?_
        obtain ⟨hs12, H⟩ := H
        refine g_getf (pc' := 62) (v := .int (yI w4 q6 4)) rfl rfl (yP_k hs12) rfl rfl ?_
        refine g_s (pc' := 63) (st' := [.long (Int32.toInt64 (yI w4 q6 4))]) rfl ?_
        refine g_s (pc' := 64) rfl ?_
        refine g_s (pc' := 65) rfl ?_
        refine g_getf (pc' := 68) (v := .ref 1007) rfl rfl rfl rfl rfl ?_
        refine g_getf (pc' := 71) (v := .long (yL w4 1007 8)) rfl rfl rfl rfl rfl ?_
        refine g_s (pc' := 72) (st' := [.long (b3 - (yL w4 1007 8)), .long (Int32.toInt64 (yI w4 q6 4))]) rfl ?_
        refine g_s (pc' := 73) (st' := [.int (lg_cmp (Int32.toInt64 (yI w4 q6 4)) (b3 - (yL w4 1007 8)))]) rfl ?_
        refine g_ifle (pc' := 76) rfl rfl (fun hc => ?_) (fun hc => ?_)
        · replace H := H.1 hc
          refine g_psh (pc' := 77) (v' := .int 0) rfl (congrArg Value.int kc_i0) ?_
          exact g_reti rfl (zbool _ (Or.inl rfl)) H
        · replace H := H.2 hc
          refine g_s (pc' := 79) rfl ?_
          refine g_getf (pc' := 82) (v := .ref 1007) rfl rfl rfl rfl rfl ?_
          refine g_s (pc' := 84) rfl ?_
          refine g_calli (a := m_X1_follow) (as := [.ref 1007, .ref q6]) (rest := []) (ls0 := [.ref 1007, .ref q6, zJ, zJ, zJ, zJ]) (pc' := 87) (t_virt rfl rfl rfl rfl rfl rfl) rfl rfl rfl ?_
          refine zGo.mono H (zKi_mono ?_)
          intro v14 w13 H
          refine g_ist (k := 6) (pc' := 89) (ls' := [.ref 1000, .ref p1, .int a2, .long b3, zJ, .ref q6, .int v14]) rfl rfl rfl rfl (zst1_of rfl (Or.inr rfl) rfl) ?_
          refine g_s (pc' := 90) rfl ?_
          refine g_s (pc' := 91) rfl ?_
          refine g_getf (pc' := 94) (v := .long (yL w13 1000 8)) rfl rfl rfl rfl rfl ?_
          refine g_s (pc' := 96) rfl ?_
          refine g_s (pc' := 97) (st' := [.long (Int32.toInt64 v14), .long (yL w13 1000 8), .ref 1000]) rfl ?_
          refine g_s (pc' := 98) (st' := [.long ((yL w13 1000 8) + (Int32.toInt64 v14)), .ref 1000]) rfl ?_
          refine g_putL (pc' := 101) rfl rfl rfl rfl rfl rfl (fun _ => rfl) ?_
          refine g_s (pc' := 103) rfl ?_
          refine g_s (pc' := 105) rfl ?_
          obtain ⟨hs15, H⟩ := H
          refine g_getf (pc' := 108) (v := .int (yI w13 q6 4)) rfl rfl (yP_k hs15) rfl rfl ?_
          refine g_icne (pc' := 111) rfl rfl (fun hc => ?_) (fun hc => ?_)
          · replace H := H.1 hc
            refine g_psh (pc' := 112) (v' := .int 1) rfl (congrArg Value.int kc_i1) ?_
            refine g_s (pc' := 116) rfl ?_
            exact g_reti rfl (zbool _ (Or.inr rfl)) H
          · replace H := H.2 hc
            refine g_psh (pc' := 116) (v' := .int 0) rfl (congrArg Value.int kc_i0) ?_
            exact g_reti rfl (zbool _ (Or.inl rfl)) H
    · replace H := H.2 hc
      refine g_psh (pc' := 11) (v' := .int 0) rfl (congrArg Value.int kc_i0) ?_
      exact g_reti rfl (zbool _ (Or.inl rfl)) H
set_option maxHeartbeats 4000000 in
theorem B_X8_cutIsDue_0 {d : Nat} {w : zm} {F : Int32 → zm → Prop} 
    (H : zGo d m_X4_isOn 0 [.ref 1025] [] (yz w) (zKi fun v2 w1 => ((v2 = 0 → F (0 : Int32) w1) ∧ (¬ v2 = 0 → (((yI w1 1026 4) < (48 : Int32) → zGo d m_X0_op 0 [.ref 1003, .int (yI w1 1007 6)] [] (yz w1) (zKi fun v4 w3 => ((v4 = 0 → F (1 : Int32) w3) ∧ (¬ v4 = 0 → F (0 : Int32) w3)))) ∧ (¬ (yI w1 1026 4) < (48 : Int32) → F (1 : Int32) w1)))))) :
    zGo (d + 1) m_X8_cutIsDue 0 [.ref 1000] [] (yz w) (zKi F) := by
  refine g_s (pc' := 1) rfl ?_
  refine g_getf (pc' := 4) (v := .ref 1025) rfl rfl rfl rfl rfl ?_
  refine g_calli (a := m_X4_isOn) (as := [.ref 1025]) (rest := []) (ls0 := [.ref 1025]) (pc' := 7) (t_virt rfl rfl rfl rfl rfl rfl) rfl rfl rfl ?_
  refine zGo.mono H (zKi_mono ?_)
  intro v2 w1 H
  refine g_ifeq (pc' := 10) rfl rfl (fun hc => ?_) (fun hc => ?_)
  · replace H := H.1 hc
    refine g_psh (pc' := 47) (v' := .int 0) rfl (congrArg Value.int kc_i0) ?_
    exact g_reti rfl (zbool _ (Or.inl rfl)) H
  · replace H := H.2 hc
    refine g_s (pc' := 11) rfl ?_
    refine g_getf (pc' := 14) (v := .ref 1025) rfl rfl rfl rfl rfl ?_
    refine g_getf (pc' := 17) (v := .ref 1026) rfl rfl rfl rfl rfl ?_
    refine g_getf (pc' := 20) (v := .int (yI w1 1026 4)) rfl rfl rfl rfl rfl ?_
    refine g_psh (pc' := 22) (v' := .int 48) rfl (congrArg Value.int kc_b48) ?_
    refine g_icge (pc' := 25) rfl rfl (fun hc => ?_) (fun hc => ?_)
    · replace H := H.1 hc
      refine g_s (pc' := 26) rfl ?_
      refine g_getf (pc' := 29) (v := .ref 1003) rfl rfl rfl rfl rfl ?_
      refine g_s (pc' := 30) rfl ?_
      refine g_getf (pc' := 33) (v := .ref 1007) rfl rfl rfl rfl rfl ?_
      refine g_getf (pc' := 36) (v := .int (yI w1 1007 6)) rfl rfl rfl rfl rfl ?_
      refine g_calli (a := m_X0_op) (as := [.ref 1003, .int (yI w1 1007 6)]) (rest := []) (ls0 := [.ref 1003, .int (yI w1 1007 6)]) (pc' := 39) (t_virt rfl rfl rfl rfl rfl rfl) rfl rfl rfl ?_
      refine zGo.mono H (zKi_mono ?_)
      intro v4 w3 H
      refine g_ifne (pc' := 42) rfl rfl (fun hc => ?_) (fun hc => ?_)
      · replace H := H.1 hc
        refine g_psh (pc' := 43) (v' := .int 1) rfl (congrArg Value.int kc_i1) ?_
        refine g_s (pc' := 47) rfl ?_
        exact g_reti rfl (zbool _ (Or.inr rfl)) H
      · replace H := H.2 hc
        refine g_psh (pc' := 47) (v' := .int 0) rfl (congrArg Value.int kc_i0) ?_
        exact g_reti rfl (zbool _ (Or.inl rfl)) H
    · replace H := H.2 hc
      refine g_psh (pc' := 43) (v' := .int 1) rfl (congrArg Value.int kc_i1) ?_
      refine g_s (pc' := 47) rfl ?_
      exact g_reti rfl (zbool _ (Or.inr rfl)) H
set_option maxHeartbeats 4000000 in
theorem B_X8_cutOff_0 {d : Nat} {w : zm} {F : zm → Prop} 
    (H : zGo d m_X4_isOfBridge 0 [.ref 1025] [] (yz (yuL w 1000 12 ((yL w 1000 12) + (1 : Int64)))) (zKi fun v2 w1 => ((v2 = 0 → zGo d m_X0_holds 0 [.ref 1003, .int (yI w1 1025 1)] [] (yz w1) (zKi fun v4 w3 => ((v4 = 0 → zGo d m_X4_drop 0 [.ref 1025] [] (yz w3) (zKv fun w5 => F w5)) ∧ (¬ v4 = 0 → (zin (yI w3 1025 1) 200) ∧ (zin (yI w3 1025 1) 200) ∧ (zin (yI w3 1025 1) 200) ∧ zGo d m_X4_drop 0 [.ref 1025] [] (yz (yuA (yuA w3 1001 (Int32.toNatClampNeg (yI w3 1025 1)) (0 : Int32)) 1002 (Int32.toNatClampNeg (yI w3 1025 1)) ((yA w3 1002 (Int32.toNatClampNeg (yI w3 1025 1))) + (1 : Int32)))) (zKv fun w9 => F w9))))) ∧ (¬ v2 = 0 → zGo d m_X6_find 0 [.ref 1022, .int (yI w1 1025 1)] [] (yz w1) (zKr fun o11 w10 => ((o11 = none → zGo d m_X4_drop 0 [.ref 1025] [] (yz w10) (zKv fun w13 => F w13)) ∧ (∀ q12, o11 = some q12 → (yT w10 q12) ∧ zGo d m_X5_noteCut 0 [.ref q12, .int (yI w10 1025 2)] [] (yz w10) (zKv fun w15 => zGo d m_X4_drop 0 [.ref 1025] [] (yz w15) (zKv fun w16 => F w16))))))))) :
    zGo (d + 1) m_X8_cutOff 0 [.ref 1000, zJ] [] (yz w) (zKv F) := by
  refine g_s (pc' := 1) rfl ?_
  refine g_s (pc' := 2) rfl ?_
  refine g_getf (pc' := 5) (v := .long (yL w 1000 12)) rfl rfl rfl rfl rfl ?_
  refine g_psh (pc' := 6) (v' := .long 1) rfl (congrArg Value.long kc_l1) ?_
  refine g_s (pc' := 7) (st' := [.long ((yL w 1000 12) + (1 : Int64)), .ref 1000]) rfl ?_
  refine g_putL (pc' := 10) rfl rfl rfl rfl rfl rfl (fun _ => rfl) ?_
  refine g_s (pc' := 11) rfl ?_
  refine g_getf (pc' := 14) (v := .ref 1025) rfl rfl rfl rfl rfl ?_
  refine g_calli (a := m_X4_isOfBridge) (as := [.ref 1025]) (rest := []) (ls0 := [.ref 1025]) (pc' := 17) (t_virt rfl rfl rfl rfl rfl rfl) rfl rfl rfl ?_
  refine zGo.mono H (zKi_mono ?_)
  intro v2 w1 H
  refine g_ifeq (pc' := 20) rfl rfl (fun hc => ?_) (fun hc => ?_)
  · replace H := H.1 hc
    refine g_s (pc' := 54) rfl ?_
    refine g_getf (pc' := 57) (v := .ref 1003) rfl rfl rfl rfl rfl ?_
    refine g_s (pc' := 58) rfl ?_
    refine g_getf (pc' := 61) (v := .ref 1025) rfl rfl rfl rfl rfl ?_
    refine g_getf (pc' := 64) (v := .int (yI w1 1025 1)) rfl rfl rfl rfl rfl ?_
    refine g_calli (a := m_X0_holds) (as := [.ref 1003, .int (yI w1 1025 1)]) (rest := []) (ls0 := [.ref 1003, .int (yI w1 1025 1)]) (pc' := 67) (t_virt rfl rfl rfl rfl rfl rfl) rfl rfl rfl ?_
    refine zGo.mono H (zKi_mono ?_)
    intro v4 w3 H
    refine g_ifeq (pc' := 70) rfl rfl (fun hc => ?_) (fun hc => ?_)
    · replace H := H.1 hc
      refine g_s (pc' := 100) rfl ?_
      refine g_getf (pc' := 103) (v := .ref 1025) rfl rfl rfl rfl rfl ?_
      refine g_callv (a := m_X4_drop) (as := [.ref 1025]) (rest := []) (ls0 := [.ref 1025]) (pc' := 106) (t_virt rfl rfl rfl rfl rfl rfl) rfl rfl rfl ?_
      refine zGo.mono H (zKv_mono ?_)
      intro w5 H
      exact g_retv rfl rfl H
    · replace H := H.2 hc
      refine g_s (pc' := 71) rfl ?_
      refine g_getf (pc' := 74) (v := .ref 1001) rfl rfl rfl rfl rfl ?_
      refine g_s (pc' := 75) rfl ?_
      refine g_getf (pc' := 78) (v := .ref 1025) rfl rfl rfl rfl rfl ?_
      refine g_getf (pc' := 81) (v := .int (yI w3 1025 1)) rfl rfl rfl rfl rfl ?_
      refine g_psh (pc' := 82) (v' := .int 0) rfl (congrArg Value.int kc_i0) ?_
      obtain ⟨hi6, H⟩ := H
      refine g_iast (pc' := 83) rfl rfl rfl rfl rfl rfl hi6 ?_
      refine g_s (pc' := 84) rfl ?_
      refine g_getf (pc' := 87) (v := .ref 1002) rfl rfl rfl rfl rfl ?_
      refine g_s (pc' := 88) rfl ?_
      refine g_getf (pc' := 91) (v := .ref 1025) rfl rfl rfl rfl rfl ?_
      refine g_getf (pc' := 94) (v := .int (yI w3 1025 1)) rfl rfl rfl rfl rfl ?_
      refine g_s (pc' := 95) rfl ?_
      obtain ⟨hi7, H⟩ := H
      refine g_iald (pc' := 96) rfl rfl rfl rfl rfl (Or.inl rfl) hi7 ?_
      refine g_psh (pc' := 97) (v' := .int 1) rfl (congrArg Value.int kc_i1) ?_
      refine g_s (pc' := 98) (st' := [.int ((yA w3 1002 (Int32.toNatClampNeg (yI w3 1025 1))) + (1 : Int32)), .int (yI w3 1025 1), .ref 1002]) rfl ?_
      obtain ⟨hi8, H⟩ := H
      refine g_iast (pc' := 99) rfl rfl rfl rfl rfl rfl hi8 ?_
      refine g_s (pc' := 100) rfl ?_
      refine g_getf (pc' := 103) (v := .ref 1025) rfl rfl rfl rfl rfl ?_
      refine g_callv (a := m_X4_drop) (as := [.ref 1025]) (rest := []) (ls0 := [.ref 1025]) (pc' := 106) (t_virt rfl rfl rfl rfl rfl rfl) rfl rfl rfl ?_
      refine zGo.mono H (zKv_mono ?_)
      intro w9 H
      exact g_retv rfl rfl H
  · replace H := H.2 hc
    refine g_s (pc' := 21) rfl ?_
    refine g_getf (pc' := 24) (v := .ref 1022) rfl rfl rfl rfl rfl ?_
    refine g_s (pc' := 25) rfl ?_
    refine g_getf (pc' := 28) (v := .ref 1025) rfl rfl rfl rfl rfl ?_
    refine g_getf (pc' := 31) (v := .int (yI w1 1025 1)) rfl rfl rfl rfl rfl ?_
    refine g_callr (a := m_X6_find) (as := [.ref 1022, .int (yI w1 1025 1)]) (rest := []) (ls0 := [.ref 1022, .int (yI w1 1025 1)]) (pc' := 34) (t_virt rfl rfl rfl rfl rfl rfl) rfl rfl rfl ?_
    refine zGo.mono H (zKr_mono ?_)
    intro o11 w10 H
    refine g_ast (k := 1) (pc' := 35) (o := o11) (ls' := [.ref 1000, va_rf o11]) rfl rfl rfl rfl (zst1_of rfl (Or.inr rfl) rfl) ?_
    refine g_aldo (k := 1) (pc' := 36) (o := o11) rfl rfl rfl rfl rfl ?_
    cases o11 with
    | none =>
      refine g_ifnull (pc' := 39) (o := none) rfl rfl (fun _ => ?_) (fun q h9 => by cases h9)
      replace H := H.1 rfl
      refine g_s (pc' := 99) rfl ?_
      refine g_s (pc' := 100) rfl ?_
      refine g_getf (pc' := 103) (v := .ref 1025) rfl rfl rfl rfl rfl ?_
      refine g_callv (a := m_X4_drop) (as := [.ref 1025]) (rest := []) (ls0 := [.ref 1025]) (pc' := 106) (t_virt rfl rfl rfl rfl rfl rfl) rfl rfl rfl ?_
      refine zGo.mono H (zKv_mono ?_)
      intro w13 H
      exact g_retv rfl rfl H
    | some q12 =>
      refine g_ifnull (pc' := 39) (o := some q12) rfl rfl (fun h9 => by cases h9) (fun _ _ => ?_)
      replace H := H.2 q12 rfl
      refine g_s (pc' := 40) rfl ?_
      refine g_s (pc' := 41) rfl ?_
      refine g_getf (pc' := 44) (v := .ref 1025) rfl rfl rfl rfl rfl ?_
      refine g_getf (pc' := 47) (v := .int (yI w10 1025 2)) rfl rfl rfl rfl rfl ?_
      obtain ⟨hs14, H⟩ := H
      refine g_callv (a := m_X5_noteCut) (as := [.ref q12, .int (yI w10 1025 2)]) (rest := []) (ls0 := [.ref q12, .int (yI w10 1025 2)]) (pc' := 50) (t_virt rfl rfl rfl rfl rfl (yT_k hs14)) rfl rfl rfl ?_
      refine zGo.mono H (zKv_mono ?_)
      intro w15 H
      refine g_s (pc' := 99) rfl ?_
      refine g_s (pc' := 100) rfl ?_
      refine g_getf (pc' := 103) (v := .ref 1025) rfl rfl rfl rfl rfl ?_
      refine g_callv (a := m_X4_drop) (as := [.ref 1025]) (rest := []) (ls0 := [.ref 1025]) (pc' := 106) (t_virt rfl rfl rfl rfl rfl rfl) rfl rfl rfl ?_
      refine zGo.mono H (zKv_mono ?_)
      intro w16 H
      exact g_retv rfl rfl H
set_option maxHeartbeats 4000000 in
theorem B_X8_emitted_0 {d : Nat} {w : zm} {F : Int32 → zm → Prop} 
    (H : F (yI w 1007 7) w) :
    zGo d m_X8_emitted 0 [.ref 1000] [] (yz w) (zKi F) := by
  refine g_s (pc' := 1) rfl ?_
  refine g_getf (pc' := 4) (v := .ref 1007) rfl rfl rfl rfl rfl ?_
  refine g_getf (pc' := 7) (v := .int (yI w 1007 7)) rfl rfl rfl rfl rfl ?_
  exact g_reti rfl rfl H
set_option maxHeartbeats 4000000 in
theorem B_X8_endRecording_0 {d : Nat} {w : zm} {F : zm → Prop} 
    (H : zGo d m_X7_find 0 [.ref 1013, .ref 1026, zJ] [] (yz w) (zKv fun w1 => zGo d m_X4_isOfBridge 0 [.ref 1025] [] (yz w1) (zKi fun v3 w2 => ((v3 = 0 → zGo d m_X6_add 0 [.ref 1022, .int (yI w2 1025 1), .ref 1026, zJ] [] (yz w2) (zKv fun w4 => zGo d m_X4_drop 0 [.ref 1025] [] (yz w4) (zKv fun w5 => F w5))) ∧ (¬ v3 = 0 → zGo d m_X6_find 0 [.ref 1022, .int (yI w2 1025 1)] [] (yz w2) (zKr fun o7 w6 => ((o7 = none → zGo d m_X4_drop 0 [.ref 1025] [] (yz w6) (zKv fun w9 => F w9)) ∧ (∀ q8, o7 = some q8 → (yT w6 q8) ∧ zGo d m_X5_addBridge 0 [.ref q8, .int (yI w6 1025 2), .ref 1026, zJ] [] (yz w6) (zKv fun w11 => zGo d m_X4_drop 0 [.ref 1025] [] (yz w11) (zKv fun w12 => F w12)))))))))) :
    zGo (d + 1) m_X8_endRecording 0 [.ref 1000, zJ] [] (yz w) (zKv F) := by
  refine g_s (pc' := 1) rfl ?_
  refine g_getf (pc' := 4) (v := .ref 1013) rfl rfl rfl rfl rfl ?_
  refine g_s (pc' := 5) rfl ?_
  refine g_getf (pc' := 8) (v := .ref 1025) rfl rfl rfl rfl rfl ?_
  refine g_getf (pc' := 11) (v := .ref 1026) rfl rfl rfl rfl rfl ?_
  refine g_callv (a := m_X7_find) (as := [.ref 1013, .ref 1026]) (rest := []) (ls0 := [.ref 1013, .ref 1026, zJ]) (pc' := 14) (t_virt rfl rfl rfl rfl rfl rfl) rfl rfl rfl ?_
  refine zGo.mono H (zKv_mono ?_)
  intro w1 H
  refine g_s (pc' := 15) rfl ?_
  refine g_getf (pc' := 18) (v := .ref 1025) rfl rfl rfl rfl rfl ?_
  refine g_calli (a := m_X4_isOfBridge) (as := [.ref 1025]) (rest := []) (ls0 := [.ref 1025]) (pc' := 21) (t_virt rfl rfl rfl rfl rfl rfl) rfl rfl rfl ?_
  refine zGo.mono H (zKi_mono ?_)
  intro v3 w2 H
  refine g_ifne (pc' := 24) rfl rfl (fun hc => ?_) (fun hc => ?_)
  · replace H := H.1 hc
    refine g_s (pc' := 25) rfl ?_
    refine g_getf (pc' := 28) (v := .ref 1022) rfl rfl rfl rfl rfl ?_
    refine g_s (pc' := 29) rfl ?_
    refine g_getf (pc' := 32) (v := .ref 1025) rfl rfl rfl rfl rfl ?_
    refine g_getf (pc' := 35) (v := .int (yI w2 1025 1)) rfl rfl rfl rfl rfl ?_
    refine g_s (pc' := 36) rfl ?_
    refine g_getf (pc' := 39) (v := .ref 1025) rfl rfl rfl rfl rfl ?_
    refine g_getf (pc' := 42) (v := .ref 1026) rfl rfl rfl rfl rfl ?_
    refine g_callv (a := m_X6_add) (as := [.ref 1022, .int (yI w2 1025 1), .ref 1026]) (rest := []) (ls0 := [.ref 1022, .int (yI w2 1025 1), .ref 1026, zJ]) (pc' := 45) (t_virt rfl rfl rfl rfl rfl rfl) rfl rfl rfl ?_
    refine zGo.mono H (zKv_mono ?_)
    intro w4 H
    refine g_s (pc' := 85) rfl ?_
    refine g_s (pc' := 86) rfl ?_
    refine g_getf (pc' := 89) (v := .ref 1025) rfl rfl rfl rfl rfl ?_
    refine g_callv (a := m_X4_drop) (as := [.ref 1025]) (rest := []) (ls0 := [.ref 1025]) (pc' := 92) (t_virt rfl rfl rfl rfl rfl rfl) rfl rfl rfl ?_
    refine zGo.mono H (zKv_mono ?_)
    intro w5 H
    exact g_retv rfl rfl H
  · replace H := H.2 hc
    refine g_s (pc' := 49) rfl ?_
    refine g_getf (pc' := 52) (v := .ref 1022) rfl rfl rfl rfl rfl ?_
    refine g_s (pc' := 53) rfl ?_
    refine g_getf (pc' := 56) (v := .ref 1025) rfl rfl rfl rfl rfl ?_
    refine g_getf (pc' := 59) (v := .int (yI w2 1025 1)) rfl rfl rfl rfl rfl ?_
    refine g_callr (a := m_X6_find) (as := [.ref 1022, .int (yI w2 1025 1)]) (rest := []) (ls0 := [.ref 1022, .int (yI w2 1025 1)]) (pc' := 62) (t_virt rfl rfl rfl rfl rfl rfl) rfl rfl rfl ?_
    refine zGo.mono H (zKr_mono ?_)
    intro o7 w6 H
    refine g_ast (k := 1) (pc' := 63) (o := o7) (ls' := [.ref 1000, va_rf o7]) rfl rfl rfl rfl (zst1_of rfl (Or.inr rfl) rfl) ?_
    refine g_aldo (k := 1) (pc' := 64) (o := o7) rfl rfl rfl rfl rfl ?_
    cases o7 with
    | none =>
      refine g_ifnull (pc' := 67) (o := none) rfl rfl (fun _ => ?_) (fun q h9 => by cases h9)
      replace H := H.1 rfl
      refine g_s (pc' := 86) rfl ?_
      refine g_getf (pc' := 89) (v := .ref 1025) rfl rfl rfl rfl rfl ?_
      refine g_callv (a := m_X4_drop) (as := [.ref 1025]) (rest := []) (ls0 := [.ref 1025]) (pc' := 92) (t_virt rfl rfl rfl rfl rfl rfl) rfl rfl rfl ?_
      refine zGo.mono H (zKv_mono ?_)
      intro w9 H
      exact g_retv rfl rfl H
    | some q8 =>
      refine g_ifnull (pc' := 67) (o := some q8) rfl rfl (fun h9 => by cases h9) (fun _ _ => ?_)
      replace H := H.2 q8 rfl
      refine g_s (pc' := 68) rfl ?_
      refine g_s (pc' := 69) rfl ?_
      refine g_getf (pc' := 72) (v := .ref 1025) rfl rfl rfl rfl rfl ?_
      refine g_getf (pc' := 75) (v := .int (yI w6 1025 2)) rfl rfl rfl rfl rfl ?_
      refine g_s (pc' := 76) rfl ?_
      refine g_getf (pc' := 79) (v := .ref 1025) rfl rfl rfl rfl rfl ?_
      refine g_getf (pc' := 82) (v := .ref 1026) rfl rfl rfl rfl rfl ?_
      obtain ⟨hs10, H⟩ := H
      refine g_callv (a := m_X5_addBridge) (as := [.ref q8, .int (yI w6 1025 2), .ref 1026]) (rest := []) (ls0 := [.ref q8, .int (yI w6 1025 2), .ref 1026, zJ]) (pc' := 85) (t_virt rfl rfl rfl rfl rfl (yT_k hs10)) rfl rfl rfl ?_
      refine zGo.mono H (zKv_mono ?_)
      intro w11 H
      refine g_s (pc' := 86) rfl ?_
      refine g_getf (pc' := 89) (v := .ref 1025) rfl rfl rfl rfl rfl ?_
      refine g_callv (a := m_X4_drop) (as := [.ref 1025]) (rest := []) (ls0 := [.ref 1025]) (pc' := 92) (t_virt rfl rfl rfl rfl rfl rfl) rfl rfl rfl ?_
      refine zGo.mono H (zKv_mono ?_)
      intro w12 H
      exact g_retv rfl rfl H
set_option maxHeartbeats 4000000 in
theorem B_X8_guard_0 {d : Nat} {w : zm} {F : Int32 → zm → Prop} {X : Nat → zm → Prop} (hd : Nat.ble 6 (d + 1) = true) (a1 : Int32) (a2 : Int32) (a3 : Int32)
    (H : zGo d m_X6_find 0 [.ref 1022, .int a1] [] (yz w) (zKr fun o2 w1 => ((o2 = none → X 0 (yuX w1 )) ∧ (∀ q3, o2 = some q3 → ((a2 < 0 → X 0 (yuX w1 )) ∧ (¬ a2 < 0 → (yT w1 q3) ∧ ((a2 < (yI w1 (q3 + 1) 6) → ((a2 < (48 : Int32) → zGo d m_X5_bridgeOf 0 [.ref q3, .int a2, zJ] [] (yz w1) (zKr fun o6 w5 => (((a3.toInt < 0 ∨ 6 < a3.toInt) → X 0 (yuX w5 )) ∧ ((a3.toInt = 0) → (yT w5 q3) ∧ (zin a2 48) ∧ F (yA w5 (q3 + 1 + 4) (Int32.toNatClampNeg a2)) w5) ∧ ((a3.toInt = 1) → (yT w5 q3) ∧ (zin a2 48) ∧ F (yA w5 (q3 + 6) (Int32.toNatClampNeg a2)) w5) ∧ ((a3.toInt = 2) → ((o6 = none → F (0 : Int32) w5) ∧ (∀ q11, o6 = some q11 → (yP w5 q11) ∧ F (yI w5 q11 4) w5))) ∧ ((a3.toInt = 3) → (yT w5 q3) ∧ (zin a2 48) ∧ F (yA w5 (q3 + 7) (Int32.toNatClampNeg a2)) w5) ∧ ((a3.toInt = 4) → ((o6 = none → F (0 : Int32) w5) ∧ (∀ q15, o6 = some q15 → (yP w5 q15) ∧ F (yI w5 q15 6) w5))) ∧ ((a3.toInt = 5) → ((o6 = none → F (0 : Int32) w5) ∧ (∀ q17, o6 = some q17 → (yP w5 q17) ∧ F (yI w5 q17 7) w5))) ∧ ((a3.toInt = 6) → ((o6 = none → F (0 : Int32) w5) ∧ (∀ q19, o6 = some q19 → (yP w5 q19) ∧ F (yI w5 q19 8) w5)))))) ∧ (¬ a2 < (48 : Int32) → X 0 (yuX w1 )))) ∧ (¬ a2 < (yI w1 (q3 + 1) 6) → X 0 (yuX w1 ))))))))) :
    zGo (d + 1) m_X8_guard 0 [.ref 1000, .int a1, .int a2, .int a3, zJ, zJ] [] (yz w) (zXi F X) := by
  refine g_s (pc' := 1) rfl ?_
  refine g_getf (pc' := 4) (v := .ref 1022) rfl rfl rfl rfl rfl ?_
  refine g_s (pc' := 5) rfl ?_
  refine g_callr (a := m_X6_find) (as := [.ref 1022, .int a1]) (rest := []) (ls0 := [.ref 1022, .int a1]) (pc' := 8) (t_virt rfl rfl rfl rfl rfl rfl) rfl rfl rfl ?_
  refine zGo.mono H (zKr_mono ?_)
  intro o2 w1 H
  refine g_ast (k := 4) (pc' := 10) (o := o2) (ls' := [.ref 1000, .int a1, .int a2, .int a3, va_rf o2, zJ]) rfl rfl rfl rfl (zst1_of rfl (Or.inr rfl) rfl) ?_
  refine g_aldo (k := 4) (pc' := 12) (o := o2) rfl rfl rfl rfl rfl ?_
  cases o2 with
  | none =>
    refine g_ifnull (pc' := 15) (o := none) rfl rfl (fun _ => ?_) (fun q h9 => by cases h9)
    replace H := H.1 rfl
    exact g_throw rfl hd rfl (fun E w h => Or.inr ⟨E, w, rfl, rfl, h⟩) H
  | some q3 =>
    refine g_ifnull (pc' := 15) (o := some q3) rfl rfl (fun h9 => by cases h9) (fun _ _ => ?_)
    replace H := H.2 q3 rfl
    refine g_s (pc' := 16) rfl ?_
    refine g_iflt (pc' := 19) rfl rfl (fun hc => ?_) (fun hc => ?_)
    · replace H := H.1 hc
      exact g_throw rfl hd rfl (fun E w h => Or.inr ⟨E, w, rfl, rfl, h⟩) H
    · replace H := H.2 hc
      refine g_s (pc' := 20) rfl ?_
      refine g_s (pc' := 22) rfl ?_
      obtain ⟨hs4, H⟩ := H
      refine g_getf (pc' := 25) (v := .ref (q3 + 1)) rfl rfl (yT_k hs4) rfl (congrArg va_rf (yT_r0 hs4)) ?_
      refine g_getf (pc' := 28) (v := .int (yI w1 (q3 + 1) 6)) rfl rfl (yP_k (yT_P hs4)) rfl rfl ?_
      refine g_icge (pc' := 31) rfl rfl (fun hc => ?_) (fun hc => ?_)
      · replace H := H.1 hc
        refine g_s (pc' := 32) rfl ?_
        refine g_psh (pc' := 34) (v' := .int 48) rfl (congrArg Value.int kc_b48) ?_
        refine g_iclt (pc' := 37) rfl rfl (fun hc => ?_) (fun hc => ?_)
        · replace H := H.1 hc
          refine g_s (pc' := 49) rfl ?_
          refine g_s (pc' := 50) rfl ?_
          refine g_callr (a := m_X5_bridgeOf) (as := [.ref q3, .int a2]) (rest := []) (ls0 := [.ref q3, .int a2, zJ]) (pc' := 53) (t_virt rfl rfl rfl rfl rfl (yT_k hs4)) rfl rfl rfl ?_
          refine zGo.mono H (zKr_mono ?_)
          intro o6 w5 H
          refine g_ast (k := 5) (pc' := 55) (o := o6) (ls' := [.ref 1000, .int a1, .int a2, .int a3, .ref q3, va_rf o6]) rfl rfl rfl rfl (zst1_of rfl (Or.inr rfl) rfl) ?_
          refine g_s (pc' := 56) rfl ?_
          refine g_tsw rfl (fun hx => ?_) (fun j hx hy => ?_)
          · replace H := H.1 (by omega)
            show zGo (d + 1) m_X8_guard 187 [.ref 1000, .int a1, .int a2, .int a3, .ref q3, va_rf o6] [] (yz w5) (zXi F X)
            exact g_throw rfl hd rfl (fun E w h => Or.inr ⟨E, w, rfl, rfl, h⟩) H
          · have hj : j < 7 := by omega
            match j, hj, hx with
            | 0, _, hx =>
              refine ⟨44, rfl, ?_⟩
              replace H := H.2.1 (by omega)
              show zGo (d + 1) m_X8_guard 100 [.ref 1000, .int a1, .int a2, .int a3, .ref q3, va_rf o6] [] (yz w5) (zXi F X)
              refine g_s (pc' := 102) rfl ?_
              obtain ⟨hs7, H⟩ := H
              refine g_getf (pc' := 105) (v := .ref (q3 + 1)) rfl rfl (yT_k hs7) rfl (congrArg va_rf (yT_r0 hs7)) ?_
              refine g_getf (pc' := 108) (v := .ref (q3 + 1 + 4)) rfl rfl (yP_k (yT_P hs7)) rfl (congrArg va_rf (yP_r3 (yT_P hs7))) ?_
              refine g_s (pc' := 109) rfl ?_
              obtain ⟨hi8, H⟩ := H
              refine g_iald (pc' := 110) rfl rfl rfl rfl (yP_k3 (yT_P hs7)) (Or.inl rfl) hi8 ?_
              exact g_xreti rfl rfl H
            | 1, _, hx =>
              refine ⟨55, rfl, ?_⟩
              replace H := H.2.2.1 (by omega)
              show zGo (d + 1) m_X8_guard 111 [.ref 1000, .int a1, .int a2, .int a3, .ref q3, va_rf o6] [] (yz w5) (zXi F X)
              refine g_s (pc' := 113) rfl ?_
              obtain ⟨hs9, H⟩ := H
              refine g_getf (pc' := 116) (v := .ref (q3 + 6)) rfl rfl (yT_k hs9) rfl (congrArg va_rf (yT_r1 hs9)) ?_
              refine g_s (pc' := 117) rfl ?_
              obtain ⟨hi10, H⟩ := H
              refine g_iald (pc' := 118) rfl rfl rfl rfl (yT_k1 hs9) (Or.inl rfl) hi10 ?_
              exact g_xreti rfl rfl H
            | 2, _, hx =>
              refine ⟨63, rfl, ?_⟩
              replace H := H.2.2.2.1 (by omega)
              show zGo (d + 1) m_X8_guard 119 [.ref 1000, .int a1, .int a2, .int a3, .ref q3, va_rf o6] [] (yz w5) (zXi F X)
              refine g_aldo (k := 5) (pc' := 121) (o := o6) rfl rfl rfl rfl rfl ?_
              cases o6 with
              | none =>
                refine g_ifnonnull (pc' := 124) (o := none) rfl rfl (fun _ => ?_) (fun q h9 => by cases h9)
                replace H := H.1 rfl
                refine g_psh (pc' := 125) (v' := .int 0) rfl (congrArg Value.int kc_i0) ?_
                refine g_s (pc' := 133) rfl ?_
                exact g_xreti rfl rfl H
              | some q11 =>
                refine g_ifnonnull (pc' := 124) (o := some q11) rfl rfl (fun h9 => by cases h9) (fun _ _ => ?_)
                replace H := H.2 q11 rfl
                refine g_s (pc' := 130) rfl ?_
                obtain ⟨hs12, H⟩ := H
                refine g_getf (pc' := 133) (v := .int (yI w5 q11 4)) rfl rfl (yP_k hs12) rfl rfl ?_
                exact g_xreti rfl rfl H
            | 3, _, hx =>
              refine ⟨78, rfl, ?_⟩
              replace H := H.2.2.2.2.1 (by omega)
              show zGo (d + 1) m_X8_guard 134 [.ref 1000, .int a1, .int a2, .int a3, .ref q3, va_rf o6] [] (yz w5) (zXi F X)
              refine g_s (pc' := 136) rfl ?_
              obtain ⟨hs13, H⟩ := H
              refine g_getf (pc' := 139) (v := .ref (q3 + 7)) rfl rfl (yT_k hs13) rfl (congrArg va_rf (yT_r2 hs13)) ?_
              refine g_s (pc' := 140) rfl ?_
              obtain ⟨hi14, H⟩ := H
              refine g_iald (pc' := 141) rfl rfl rfl rfl (yT_k2 hs13) (Or.inl rfl) hi14 ?_
              exact g_xreti rfl rfl H
            | 4, _, hx =>
              refine ⟨86, rfl, ?_⟩
              replace H := H.2.2.2.2.2.1 (by omega)
              show zGo (d + 1) m_X8_guard 142 [.ref 1000, .int a1, .int a2, .int a3, .ref q3, va_rf o6] [] (yz w5) (zXi F X)
              refine g_aldo (k := 5) (pc' := 144) (o := o6) rfl rfl rfl rfl rfl ?_
              cases o6 with
              | none =>
                refine g_ifnonnull (pc' := 147) (o := none) rfl rfl (fun _ => ?_) (fun q h9 => by cases h9)
                replace H := H.1 rfl
                refine g_psh (pc' := 148) (v' := .int 0) rfl (congrArg Value.int kc_i0) ?_
                refine g_s (pc' := 156) rfl ?_
                exact g_xreti rfl rfl H
              | some q15 =>
                refine g_ifnonnull (pc' := 147) (o := some q15) rfl rfl (fun h9 => by cases h9) (fun _ _ => ?_)
                replace H := H.2 q15 rfl
                refine g_s (pc' := 153) rfl ?_
                obtain ⟨hs16, H⟩ := H
                refine g_getf (pc' := 156) (v := .int (yI w5 q15 6)) rfl rfl (yP_k hs16) rfl rfl ?_
                exact g_xreti rfl rfl H
            | 5, _, hx =>
              refine ⟨101, rfl, ?_⟩
              replace H := H.2.2.2.2.2.2.1 (by omega)
              show zGo (d + 1) m_X8_guard 157 [.ref 1000, .int a1, .int a2, .int a3, .ref q3, va_rf o6] [] (yz w5) (zXi F X)
              refine g_aldo (k := 5) (pc' := 159) (o := o6) rfl rfl rfl rfl rfl ?_
              cases o6 with
              | none =>
                refine g_ifnonnull (pc' := 162) (o := none) rfl rfl (fun _ => ?_) (fun q h9 => by cases h9)
                replace H := H.1 rfl
                refine g_psh (pc' := 163) (v' := .int 0) rfl (congrArg Value.int kc_i0) ?_
                refine g_s (pc' := 171) rfl ?_
                exact g_xreti rfl rfl H
              | some q17 =>
                refine g_ifnonnull (pc' := 162) (o := some q17) rfl rfl (fun h9 => by cases h9) (fun _ _ => ?_)
                replace H := H.2 q17 rfl
                refine g_s (pc' := 168) rfl ?_
                obtain ⟨hs18, H⟩ := H
                refine g_getf (pc' := 171) (v := .int (yI w5 q17 7)) rfl rfl (yP_k hs18) rfl rfl ?_
                exact g_xreti rfl rfl H
            | 6, _, hx =>
              refine ⟨116, rfl, ?_⟩
              replace H := H.2.2.2.2.2.2.2 (by omega)
              show zGo (d + 1) m_X8_guard 172 [.ref 1000, .int a1, .int a2, .int a3, .ref q3, va_rf o6] [] (yz w5) (zXi F X)
              refine g_aldo (k := 5) (pc' := 174) (o := o6) rfl rfl rfl rfl rfl ?_
              cases o6 with
              | none =>
                refine g_ifnonnull (pc' := 177) (o := none) rfl rfl (fun _ => ?_) (fun q h9 => by cases h9)
                replace H := H.1 rfl
                refine g_psh (pc' := 178) (v' := .int 0) rfl (congrArg Value.int kc_i0) ?_
                refine g_s (pc' := 186) rfl ?_
                exact g_xreti rfl rfl H
              | some q19 =>
                refine g_ifnonnull (pc' := 177) (o := some q19) rfl rfl (fun h9 => by cases h9) (fun _ _ => ?_)
                replace H := H.2 q19 rfl
                refine g_s (pc' := 183) rfl ?_
                obtain ⟨hs20, H⟩ := H
                refine g_getf (pc' := 186) (v := .int (yI w5 q19 8)) rfl rfl (yP_k hs20) rfl rfl ?_
                exact g_xreti rfl rfl H
            | _ + 7, hj, _ => exact absurd hj (by omega)
        · replace H := H.2 hc
          exact g_throw rfl hd rfl (fun E w h => Or.inr ⟨E, w, rfl, rfl, h⟩) H
      · replace H := H.2 hc
        exact g_throw rfl hd rfl (fun E w h => Or.inr ⟨E, w, rfl, rfl, h⟩) H
set_option maxHeartbeats 4000000 in
theorem B_X8_heat_0 {d : Nat} {w : zm} {F : Int32 → zm → Prop} {X : Nat → zm → Prop} (hd : Nat.ble 6 (d + 1) = true) (a1 : Int32)
    (H : zGo d m_X0_holds 0 [.ref 1003, .int a1] [] (yz w) (zKi fun v2 w1 => ((v2 = 0 → X 0 (yuX w1 )) ∧ (¬ v2 = 0 → (zin a1 200) ∧ F (yA w1 1001 (Int32.toNatClampNeg a1)) w1)))) :
    zGo (d + 1) m_X8_heat 0 [.ref 1000, .int a1] [] (yz w) (zXi F X) := by
  refine g_s (pc' := 1) rfl ?_
  refine g_getf (pc' := 4) (v := .ref 1003) rfl rfl rfl rfl rfl ?_
  refine g_s (pc' := 5) rfl ?_
  refine g_calli (a := m_X0_holds) (as := [.ref 1003, .int a1]) (rest := []) (ls0 := [.ref 1003, .int a1]) (pc' := 8) (t_virt rfl rfl rfl rfl rfl rfl) rfl rfl rfl ?_
  refine zGo.mono H (zKi_mono ?_)
  intro v2 w1 H
  refine g_ifne (pc' := 11) rfl rfl (fun hc => ?_) (fun hc => ?_)
  · replace H := H.1 hc
    exact g_throw rfl hd rfl (fun E w h => Or.inr ⟨E, w, rfl, rfl, h⟩) H
  · replace H := H.2 hc
    refine g_s (pc' := 22) rfl ?_
    refine g_getf (pc' := 25) (v := .ref 1001) rfl rfl rfl rfl rfl ?_
    refine g_s (pc' := 26) rfl ?_
    obtain ⟨hi3, H⟩ := H
    refine g_iald (pc' := 27) rfl rfl rfl rfl rfl (Or.inl rfl) hi3 ?_
    exact g_xreti rfl rfl H
set_option maxHeartbeats 4000000 in
theorem B_X8_height_0 {d : Nat} {w : zm} {F : Int32 → zm → Prop} 
    (H : F (yI w 1009 1) w) :
    zGo d m_X8_height 0 [.ref 1000] [] (yz w) (zKi F) := by
  refine g_s (pc' := 1) rfl ?_
  refine g_getf (pc' := 4) (v := .ref 1007) rfl rfl rfl rfl rfl ?_
  refine g_getf (pc' := 7) (v := .ref 1009) rfl rfl rfl rfl rfl ?_
  refine g_getf (pc' := 10) (v := .int (yI w 1009 1)) rfl rfl rfl rfl rfl ?_
  exact g_reti rfl rfl H
set_option maxHeartbeats 4000000 in
theorem B_X8_invalidate_0 {d : Nat} {w : zm} {F : Int32 → zm → Prop} {X : Nat → zm → Prop} (hd : Nat.ble 6 (d + 1) = true) (a1 : Int32)
    (H : zGo d m_X0_holds 0 [.ref 1003, .int a1] [] (yz w) (zKi fun v2 w1 => ((v2 = 0 → X 0 (yuX w1 )) ∧ (¬ v2 = 0 → (zin a1 200) ∧ (zin a1 200) ∧ (((yI w1 1025 1) = a1 → zGo d m_X4_drop 0 [.ref 1025] [] (yz (yuA (yuA w1 1001 (Int32.toNatClampNeg a1) (0 : Int32)) 1002 (Int32.toNatClampNeg a1) (0 : Int32))) (zKv fun w5 => zGo d m_X6_remove 0 [.ref 1022, .int a1] [] (yz w5) (zKi fun v7 w6 => (v7 = 0 ∨ v7 = 1) ∧ F v7 w6))) ∧ (¬ (yI w1 1025 1) = a1 → zGo d m_X6_remove 0 [.ref 1022, .int a1] [] (yz (yuA (yuA w1 1001 (Int32.toNatClampNeg a1) (0 : Int32)) 1002 (Int32.toNatClampNeg a1) (0 : Int32))) (zKi fun v10 w9 => (v10 = 0 ∨ v10 = 1) ∧ F v10 w9))))))) :
    zGo (d + 1) m_X8_invalidate 0 [.ref 1000, .int a1] [] (yz w) (zXi F X) := by
  refine g_s (pc' := 1) rfl ?_
  refine g_getf (pc' := 4) (v := .ref 1003) rfl rfl rfl rfl rfl ?_
  refine g_s (pc' := 5) rfl ?_
  refine g_calli (a := m_X0_holds) (as := [.ref 1003, .int a1]) (rest := []) (ls0 := [.ref 1003, .int a1]) (pc' := 8) (t_virt rfl rfl rfl rfl rfl rfl) rfl rfl rfl ?_
  refine zGo.mono H (zKi_mono ?_)
  intro v2 w1 H
  refine g_ifne (pc' := 11) rfl rfl (fun hc => ?_) (fun hc => ?_)
  · replace H := H.1 hc
    exact g_throw rfl hd rfl (fun E w h => Or.inr ⟨E, w, rfl, rfl, h⟩) H
  · replace H := H.2 hc
    refine g_s (pc' := 22) rfl ?_
    refine g_getf (pc' := 25) (v := .ref 1001) rfl rfl rfl rfl rfl ?_
    refine g_s (pc' := 26) rfl ?_
    refine g_psh (pc' := 27) (v' := .int 0) rfl (congrArg Value.int kc_i0) ?_
    obtain ⟨hi3, H⟩ := H
    refine g_iast (pc' := 28) rfl rfl rfl rfl rfl rfl hi3 ?_
    refine g_s (pc' := 29) rfl ?_
    refine g_getf (pc' := 32) (v := .ref 1002) rfl rfl rfl rfl rfl ?_
    refine g_s (pc' := 33) rfl ?_
    refine g_psh (pc' := 34) (v' := .int 0) rfl (congrArg Value.int kc_i0) ?_
    obtain ⟨hi4, H⟩ := H
    refine g_iast (pc' := 35) rfl rfl rfl rfl rfl rfl hi4 ?_
    refine g_s (pc' := 36) rfl ?_
    refine g_getf (pc' := 39) (v := .ref 1025) rfl rfl rfl rfl rfl ?_
    refine g_getf (pc' := 42) (v := .int (yI w1 1025 1)) rfl rfl rfl rfl rfl ?_
    refine g_s (pc' := 43) rfl ?_
    refine g_icne (pc' := 46) rfl rfl (fun hc => ?_) (fun hc => ?_)
    · replace H := H.1 hc
      refine g_s (pc' := 47) rfl ?_
      refine g_getf (pc' := 50) (v := .ref 1025) rfl rfl rfl rfl rfl ?_
      refine g_callv (a := m_X4_drop) (as := [.ref 1025]) (rest := []) (ls0 := [.ref 1025]) (pc' := 53) (t_virt rfl rfl rfl rfl rfl rfl) rfl rfl rfl ?_
      refine zGo.mono H (zKv_mono ?_)
      intro w5 H
      refine g_s (pc' := 54) rfl ?_
      refine g_getf (pc' := 57) (v := .ref 1022) rfl rfl rfl rfl rfl ?_
      refine g_s (pc' := 58) rfl ?_
      refine g_calli (a := m_X6_remove) (as := [.ref 1022, .int a1]) (rest := []) (ls0 := [.ref 1022, .int a1]) (pc' := 61) (t_virt rfl rfl rfl rfl rfl rfl) rfl rfl rfl ?_
      refine zGo.mono H (zKi_mono ?_)
      intro v7 w6 H
      obtain ⟨hz8, H⟩ := H
      exact g_xreti rfl (zbool _ hz8) H
    · replace H := H.2 hc
      refine g_s (pc' := 54) rfl ?_
      refine g_getf (pc' := 57) (v := .ref 1022) rfl rfl rfl rfl rfl ?_
      refine g_s (pc' := 58) rfl ?_
      refine g_calli (a := m_X6_remove) (as := [.ref 1022, .int a1]) (rest := []) (ls0 := [.ref 1022, .int a1]) (pc' := 61) (t_virt rfl rfl rfl rfl rfl rfl) rfl rfl rfl ?_
      refine zGo.mono H (zKi_mono ?_)
      intro v10 w9 H
      obtain ⟨hz11, H⟩ := H
      exact g_xreti rfl (zbool _ hz11) H
set_option maxHeartbeats 4000000 in
theorem B_X8_isJump_0 {d : Nat} {w : zm} {F : Int32 → zm → Prop} (a0 : Int32)
    (H : ((a0 = (21 : Int32) → F (1 : Int32) w) ∧ (¬ a0 = (21 : Int32) → ((a0 = (22 : Int32) → F (1 : Int32) w) ∧ (¬ a0 = (22 : Int32) → ((a0 = (23 : Int32) → F (1 : Int32) w) ∧ (¬ a0 = (23 : Int32) → F (0 : Int32) w))))))) :
    zGo d m_X8_isJump 0 [.int a0] [] (yz w) (zKi F) := by
  refine g_s (pc' := 1) rfl ?_
  refine g_psh (pc' := 3) (v' := .int 21) rfl (congrArg Value.int kc_b21) ?_
  refine g_iceq (pc' := 6) rfl rfl (fun hc => ?_) (fun hc => ?_)
  · replace H := H.1 hc
    refine g_psh (pc' := 19) (v' := .int 1) rfl (congrArg Value.int kc_i1) ?_
    refine g_s (pc' := 23) rfl ?_
    exact g_reti rfl (zbool _ (Or.inr rfl)) H
  · replace H := H.2 hc
    refine g_s (pc' := 7) rfl ?_
    refine g_psh (pc' := 9) (v' := .int 22) rfl (congrArg Value.int kc_b22) ?_
    refine g_iceq (pc' := 12) rfl rfl (fun hc => ?_) (fun hc => ?_)
    · replace H := H.1 hc
      refine g_psh (pc' := 19) (v' := .int 1) rfl (congrArg Value.int kc_i1) ?_
      refine g_s (pc' := 23) rfl ?_
      exact g_reti rfl (zbool _ (Or.inr rfl)) H
    · replace H := H.2 hc
      refine g_s (pc' := 13) rfl ?_
      refine g_psh (pc' := 15) (v' := .int 23) rfl (congrArg Value.int kc_b23) ?_
      refine g_icne (pc' := 18) rfl rfl (fun hc => ?_) (fun hc => ?_)
      · replace H := H.1 hc
        refine g_psh (pc' := 19) (v' := .int 1) rfl (congrArg Value.int kc_i1) ?_
        refine g_s (pc' := 23) rfl ?_
        exact g_reti rfl (zbool _ (Or.inr rfl)) H
      · replace H := H.2 hc
        refine g_psh (pc' := 23) (v' := .int 0) rfl (congrArg Value.int kc_i0) ?_
        exact g_reti rfl (zbool _ (Or.inl rfl)) H
set_option maxHeartbeats 4000000 in
theorem B_X8_local_0 {d : Nat} {w : zm} {F : Int32 → zm → Prop} {X : Nat → zm → Prop} (hd : Nat.ble 6 d = true) (a1 : Int32)
    (H : ((a1 < 0 → X 0 (yuX w )) ∧ (¬ a1 < 0 → ((a1 < (16 : Int32) → (zin a1 16) ∧ F (yA w 1008 (Int32.toNatClampNeg a1)) w) ∧ (¬ a1 < (16 : Int32) → X 0 (yuX w )))))) :
    zGo d m_X8_local 0 [.ref 1000, .int a1] [] (yz w) (zXi F X) := by
  refine g_s (pc' := 1) rfl ?_
  refine g_iflt (pc' := 4) rfl rfl (fun hc => ?_) (fun hc => ?_)
  · replace H := H.1 hc
    exact g_throw rfl hd rfl (fun E w h => Or.inr ⟨E, w, rfl, rfl, h⟩) H
  · replace H := H.2 hc
    refine g_s (pc' := 5) rfl ?_
    refine g_psh (pc' := 7) (v' := .int 16) rfl (congrArg Value.int kc_b16) ?_
    refine g_iclt (pc' := 10) rfl rfl (fun hc => ?_) (fun hc => ?_)
    · replace H := H.1 hc
      refine g_s (pc' := 21) rfl ?_
      refine g_getf (pc' := 24) (v := .ref 1007) rfl rfl rfl rfl rfl ?_
      refine g_getf (pc' := 27) (v := .ref 1008) rfl rfl rfl rfl rfl ?_
      refine g_s (pc' := 28) rfl ?_
      obtain ⟨hi1, H⟩ := H
      refine g_iald (pc' := 29) rfl rfl rfl rfl rfl (Or.inl rfl) hi1 ?_
      exact g_xreti rfl rfl H
    · replace H := H.2 hc
      exact g_throw rfl hd rfl (fun E w h => Or.inr ⟨E, w, rfl, rfl, h⟩) H
set_option maxHeartbeats 4000000 in
theorem B_X8_memory_0 {d : Nat} {w : zm} {F : Int32 → zm → Prop} {X : Nat → zm → Prop} (hd : Nat.ble 6 d = true) (a1 : Int32)
    (H : ((a1 < 0 → X 0 (yuX w )) ∧ (¬ a1 < 0 → ((a1 < (32 : Int32) → (zin a1 32) ∧ F (yA w 1011 (Int32.toNatClampNeg a1)) w) ∧ (¬ a1 < (32 : Int32) → X 0 (yuX w )))))) :
    zGo d m_X8_memory 0 [.ref 1000, .int a1] [] (yz w) (zXi F X) := by
  refine g_s (pc' := 1) rfl ?_
  refine g_iflt (pc' := 4) rfl rfl (fun hc => ?_) (fun hc => ?_)
  · replace H := H.1 hc
    exact g_throw rfl hd rfl (fun E w h => Or.inr ⟨E, w, rfl, rfl, h⟩) H
  · replace H := H.2 hc
    refine g_s (pc' := 5) rfl ?_
    refine g_psh (pc' := 7) (v' := .int 32) rfl (congrArg Value.int kc_b32) ?_
    refine g_iclt (pc' := 10) rfl rfl (fun hc => ?_) (fun hc => ?_)
    · replace H := H.1 hc
      refine g_s (pc' := 21) rfl ?_
      refine g_getf (pc' := 24) (v := .ref 1007) rfl rfl rfl rfl rfl ?_
      refine g_getf (pc' := 27) (v := .ref 1011) rfl rfl rfl rfl rfl ?_
      refine g_s (pc' := 28) rfl ?_
      obtain ⟨hi1, H⟩ := H
      refine g_iald (pc' := 29) rfl rfl rfl rfl rfl (Or.inl rfl) hi1 ?_
      exact g_xreti rfl rfl H
    · replace H := H.2 hc
      exact g_throw rfl hd rfl (fun E w h => Or.inr ⟨E, w, rfl, rfl, h⟩) H
set_option maxHeartbeats 4000000 in
theorem B_X8_output_0 {d : Nat} {w : zm} {F : Int32 → zm → Prop} {X : Nat → zm → Prop} (hd : Nat.ble 6 d = true) (a1 : Int32)
    (H : ((a1 < 0 → X 0 (yuX w )) ∧ (¬ a1 < 0 → ((a1 < (yI w 1007 7) → ((a1 < ((yI w 1007 7) - (200 : Int32)) → X 0 (yuX w )) ∧ (¬ a1 < ((yI w 1007 7) - (200 : Int32)) → (zin (a1 - a1 / (200 : Int32) * (200 : Int32)) 200) ∧ F (yA w 1012 (Int32.toNatClampNeg (a1 - a1 / (200 : Int32) * (200 : Int32)))) w))) ∧ (¬ a1 < (yI w 1007 7) → X 0 (yuX w )))))) :
    zGo d m_X8_output 0 [.ref 1000, .int a1] [] (yz w) (zXi F X) := by
  refine g_s (pc' := 1) rfl ?_
  refine g_iflt (pc' := 4) rfl rfl (fun hc => ?_) (fun hc => ?_)
  · replace H := H.1 hc
    exact g_throw rfl hd rfl (fun E w h => Or.inr ⟨E, w, rfl, rfl, h⟩) H
  · replace H := H.2 hc
    refine g_s (pc' := 5) rfl ?_
    refine g_s (pc' := 6) rfl ?_
    refine g_getf (pc' := 9) (v := .ref 1007) rfl rfl rfl rfl rfl ?_
    refine g_getf (pc' := 12) (v := .int (yI w 1007 7)) rfl rfl rfl rfl rfl ?_
    refine g_icge (pc' := 15) rfl rfl (fun hc => ?_) (fun hc => ?_)
    · replace H := H.1 hc
      refine g_s (pc' := 16) rfl ?_
      refine g_s (pc' := 17) rfl ?_
      refine g_getf (pc' := 20) (v := .ref 1007) rfl rfl rfl rfl rfl ?_
      refine g_getf (pc' := 23) (v := .int (yI w 1007 7)) rfl rfl rfl rfl rfl ?_
      refine g_psh (pc' := 26) (v' := .int 200) rfl (congrArg Value.int kc_s200) ?_
      refine g_s (pc' := 27) (st' := [.int ((yI w 1007 7) - (200 : Int32)), .int a1]) rfl ?_
      refine g_icge (pc' := 30) rfl rfl (fun hc => ?_) (fun hc => ?_)
      · replace H := H.1 hc
        exact g_throw rfl hd rfl (fun E w h => Or.inr ⟨E, w, rfl, rfl, h⟩) H
      · replace H := H.2 hc
        refine g_s (pc' := 41) rfl ?_
        refine g_getf (pc' := 44) (v := .ref 1007) rfl rfl rfl rfl rfl ?_
        refine g_getf (pc' := 47) (v := .ref 1012) rfl rfl rfl rfl rfl ?_
        refine g_s (pc' := 48) rfl ?_
        refine g_psh (pc' := 51) (v' := .int 200) rfl (congrArg Value.int kc_s200) ?_
        refine g_div (pc' := 52) (f := (fun x y => x - x / y * y)) rfl rfl rfl rfl (by decide) ?_
        show zGo d m_X8_output 52 [.ref 1000, .int a1] [.int (a1 - a1 / (200 : Int32) * (200 : Int32)), .ref 1012] (yz w) (zXi F X)
        obtain ⟨hi1, H⟩ := H
        refine g_iald (pc' := 53) rfl rfl rfl rfl rfl (Or.inl rfl) hi1 ?_
        exact g_xreti rfl rfl H
    · replace H := H.2 hc
      exact g_throw rfl hd rfl (fun E w h => Or.inr ⟨E, w, rfl, rfl, h⟩) H
set_option maxHeartbeats 4000000 in
theorem B_X8_passComesRound_0 {d : Nat} {w : zm} {F : Int32 → zm → Prop} (b1 : Int64)
    (H : zGo d m_X4_isOn 0 [.ref 1025] [] (yz w) (zKi fun v2 w1 => ((v2 = 0 → zGo d m_X6_find 0 [.ref 1022, .int (yI w1 1007 6)] [] (yz w1) (zKr fun o4 w3 => zGo (d + 1) m_X8_passComesRound 28 [.ref 1000, .long b1, zJ, zJ, zJ, zJ] [va_rf o4] (yz w3) (zKi F))) ∧ (¬ v2 = 0 → zGo (d + 1) m_X8_passComesRound 28 [.ref 1000, .long b1, zJ, zJ, zJ, zJ] [va_rf none] (yz w1) (zKi F))))) :
    zGo (d + 1) m_X8_passComesRound 0 [.ref 1000, .long b1, zJ, zJ, zJ, zJ] [] (yz w) (zKi F) := by
  refine g_s (pc' := 1) rfl ?_
  refine g_getf (pc' := 4) (v := .ref 1025) rfl rfl rfl rfl rfl ?_
  refine g_calli (a := m_X4_isOn) (as := [.ref 1025]) (rest := []) (ls0 := [.ref 1025]) (pc' := 7) (t_virt rfl rfl rfl rfl rfl rfl) rfl rfl rfl ?_
  refine zGo.mono H (zKi_mono ?_)
  intro v2 w1 H
  refine g_ifeq (pc' := 10) rfl rfl (fun hc => ?_) (fun hc => ?_)
  · replace H := H.1 hc
    refine g_s (pc' := 15) rfl ?_
    refine g_getf (pc' := 18) (v := .ref 1022) rfl rfl rfl rfl rfl ?_
    refine g_s (pc' := 19) rfl ?_
    refine g_getf (pc' := 22) (v := .ref 1007) rfl rfl rfl rfl rfl ?_
    refine g_getf (pc' := 25) (v := .int (yI w1 1007 6)) rfl rfl rfl rfl rfl ?_
    refine g_callr (a := m_X6_find) (as := [.ref 1022, .int (yI w1 1007 6)]) (rest := []) (ls0 := [.ref 1022, .int (yI w1 1007 6)]) (pc' := 28) (t_virt rfl rfl rfl rfl rfl rfl) rfl rfl rfl ?_
    refine zGo.mono H (zKr_mono ?_)
    intro o4 w3 H
    exact H
  · replace H := H.2 hc
    refine g_s (pc' := 11) rfl ?_
    refine g_s (pc' := 28) rfl ?_
    exact H
set_option maxHeartbeats 4000000 in
theorem B_X8_passComesRound_28 {d : Nat} {w : zm} {F : Int32 → zm → Prop} (b1 : Int64) (r0 : Option Nat)
    (H : ((r0 = none → F (0 : Int32) w) ∧ (∀ q1, r0 = some q1 → (yT w q1) ∧ ((0 < (lg_cmp (Int32.toInt64 (yI w (q1 + 1) 4)) (b1 - (yL w 1007 8))) → F (0 : Int32) w) ∧ (¬ 0 < (lg_cmp (Int32.toInt64 (yI w (q1 + 1) 4)) (b1 - (yL w 1007 8))) → zGo d m_X1_follow 0 [.ref 1007, .ref (q1 + 1), zJ, zJ, zJ, zJ] [] (yz (yuI (yuL w 1000 9 ((yL w 1000 9) + (1 : Int64))) q1 7 ((yI w q1 7) + (1 : Int32)))) (zKi fun v4 w3 => (yT w3 q1) ∧ ((v4 = (yI w3 (q1 + 1) 4) → zGo (d + 1) m_X8_passComesRound 136 [.ref 1000, .long b1, zJ, .ref q1, .int v4, zJ] [.int (1 : Int32)] (yz (yuL w3 1000 8 ((yL w3 1000 8) + (Int32.toInt64 v4)))) (zKi F)) ∧ (¬ v4 = (yI w3 (q1 + 1) 4) → zGo d m_X2_guardOf 0 [.ref (q1 + 1), .int v4] [] (yz (yuL w3 1000 8 ((yL w3 1000 8) + (Int32.toInt64 v4)))) (zKi fun v7 w6 => zGo d m_X8_bridgeComesRound 0 [.ref 1000, .ref q1, .int v7, .long b1, zJ, zJ, zJ] [] (yz w6) (zKi fun v9 w8 => ((v9 = 0 → zGo (d + 1) m_X8_passComesRound 136 [.ref 1000, .long b1, zJ, .ref q1, .int v4, zJ] [.int (0 : Int32)] (yz w8) (zKi F)) ∧ (¬ v9 = 0 → zGo (d + 1) m_X8_passComesRound 136 [.ref 1000, .long b1, zJ, .ref q1, .int v4, zJ] [.int (1 : Int32)] (yz w8) (zKi F))))))))))))) :
    zGo (d + 1) m_X8_passComesRound 28 [.ref 1000, .long b1, zJ, zJ, zJ, zJ] [va_rf r0] (yz w) (zKi F) := by
  refine g_ast (k := 3) (pc' := 29) (o := r0) (ls' := [.ref 1000, .long b1, zJ, va_rf r0, zJ, zJ]) rfl rfl rfl rfl (zst1_of rfl (Or.inr rfl) rfl) ?_
  refine g_aldo (k := 3) (pc' := 30) (o := r0) rfl rfl rfl rfl rfl ?_
  cases r0 with
  | none =>
    refine g_ifnull (pc' := 33) (o := none) rfl rfl (fun _ => ?_) (fun q h9 => by cases h9)
    replace H := H.1 rfl
    refine g_psh (pc' := 55) (v' := .int 0) rfl (congrArg Value.int kc_i0) ?_
    exact g_reti rfl (zbool _ (Or.inl rfl)) H
  | some q1 =>
    refine g_ifnull (pc' := 33) (o := some q1) rfl rfl (fun h9 => by cases h9) (fun _ _ => ?_)
    replace H := H.2 q1 rfl
    refine g_s (pc' := 34) rfl ?_
    obtain ⟨hs2, H⟩ := H
    refine g_getf (pc' := 37) (v := .ref (q1 + 1)) rfl rfl (yT_k hs2) rfl (congrArg va_rf (yT_r0 hs2)) ?_
    refine g_getf (pc' := 40) (v := .int (yI w (q1 + 1) 4)) rfl rfl (yP_k (yT_P hs2)) rfl rfl ?_
    refine g_s (pc' := 41) (st' := [.long (Int32.toInt64 (yI w (q1 + 1) 4))]) rfl ?_
    refine g_s (pc' := 42) rfl ?_
    refine g_s (pc' := 43) rfl ?_
    refine g_getf (pc' := 46) (v := .ref 1007) rfl rfl rfl rfl rfl ?_
    refine g_getf (pc' := 49) (v := .long (yL w 1007 8)) rfl rfl rfl rfl rfl ?_
    refine g_s (pc' := 50) (st' := [.long (b1 - (yL w 1007 8)), .long (Int32.toInt64 (yI w (q1 + 1) 4))]) rfl ?_
    refine g_s (pc' := 51) (st' := [.int (lg_cmp (Int32.toInt64 (yI w (q1 + 1) 4)) (b1 - (yL w 1007 8)))]) rfl ?_
    refine g_ifle (pc' := 54) rfl rfl (fun hc => ?_) (fun hc => ?_)
    · replace H := H.1 hc
      refine g_psh (pc' := 55) (v' := .int 0) rfl (congrArg Value.int kc_i0) ?_
      exact g_reti rfl (zbool _ (Or.inl rfl)) H
    · replace H := H.2 hc
      refine g_s (pc' := 57) rfl ?_
      refine g_s (pc' := 58) rfl ?_
      refine g_getf (pc' := 61) (v := .long (yL w 1000 9)) rfl rfl rfl rfl rfl ?_
      refine g_psh (pc' := 62) (v' := .long 1) rfl (congrArg Value.long kc_l1) ?_
      refine g_s (pc' := 63) (st' := [.long ((yL w 1000 9) + (1 : Int64)), .ref 1000]) rfl ?_
      refine g_putL (pc' := 66) rfl rfl rfl rfl rfl rfl (fun _ => rfl) ?_
      refine g_s (pc' := 67) rfl ?_
      refine g_s (pc' := 68) rfl ?_
      refine g_getf (pc' := 71) (v := .int (yI w q1 7)) rfl rfl (yT_k hs2) rfl rfl ?_
      refine g_psh (pc' := 72) (v' := .int 1) rfl (congrArg Value.int kc_i1) ?_
      refine g_s (pc' := 73) (st' := [.int ((yI w q1 7) + (1 : Int32)), .ref q1]) rfl ?_
      refine g_putI (pc' := 76) rfl rfl (yT_k hs2) rfl (yT_b hs2) rfl (fun _ => rfl) ?_
      refine g_s (pc' := 77) rfl ?_
      refine g_getf (pc' := 80) (v := .ref 1007) rfl rfl rfl rfl rfl ?_
      refine g_s (pc' := 81) rfl ?_
      refine g_getf (pc' := 84) (v := .ref (q1 + 1)) rfl rfl (yT_k hs2) rfl (congrArg va_rf (yT_r0 hs2)) ?_
      refine g_calli (a := m_X1_follow) (as := [.ref 1007, .ref (q1 + 1)]) (rest := []) (ls0 := [.ref 1007, .ref (q1 + 1), zJ, zJ, zJ, zJ]) (pc' := 87) (t_virt rfl rfl rfl rfl rfl rfl) rfl rfl rfl ?_
      refine zGo.mono H (zKi_mono ?_)
      intro v4 w3 H
      refine g_ist (k := 4) (pc' := 89) (ls' := [.ref 1000, .long b1, zJ, .ref q1, .int v4, zJ]) rfl rfl rfl rfl (zst1_of rfl (Or.inr rfl) rfl) ?_
      refine g_s (pc' := 90) rfl ?_
      refine g_s (pc' := 91) rfl ?_
      refine g_getf (pc' := 94) (v := .long (yL w3 1000 8)) rfl rfl rfl rfl rfl ?_
      refine g_s (pc' := 96) rfl ?_
      refine g_s (pc' := 97) (st' := [.long (Int32.toInt64 v4), .long (yL w3 1000 8), .ref 1000]) rfl ?_
      refine g_s (pc' := 98) (st' := [.long ((yL w3 1000 8) + (Int32.toInt64 v4)), .ref 1000]) rfl ?_
      refine g_putL (pc' := 101) rfl rfl rfl rfl rfl rfl (fun _ => rfl) ?_
      refine g_s (pc' := 103) rfl ?_
      refine g_s (pc' := 104) rfl ?_
      obtain ⟨hs5, H⟩ := H
      refine g_getf (pc' := 107) (v := .ref (q1 + 1)) rfl rfl (yT_k hs5) rfl (congrArg va_rf (yT_r0 hs5)) ?_
      refine g_getf (pc' := 110) (v := .int (yI w3 (q1 + 1) 4)) rfl rfl (yP_k (yT_P hs5)) rfl rfl ?_
      refine g_iceq (pc' := 113) rfl rfl (fun hc => ?_) (fun hc => ?_)
      · replace H := H.1 hc
        refine g_psh (pc' := 132) (v' := .int 1) rfl (congrArg Value.int kc_i1) ?_
        refine g_s (pc' := 136) rfl ?_
        exact H
      · replace H := H.2 hc
        refine g_s (pc' := 114) rfl ?_
        refine g_s (pc' := 115) rfl ?_
        refine g_s (pc' := 116) rfl ?_
        refine g_getf (pc' := 119) (v := .ref (q1 + 1)) rfl rfl (yT_k hs5) rfl (congrArg va_rf (yT_r0 hs5)) ?_
        refine g_s (pc' := 121) rfl ?_
        refine g_calli (a := m_X2_guardOf) (as := [.ref (q1 + 1), .int v4]) (rest := [.ref q1, .ref 1000]) (ls0 := [.ref (q1 + 1), .int v4]) (pc' := 124) (t_virt rfl rfl rfl rfl rfl (yP_k (yT_P hs5))) rfl rfl rfl ?_
        refine zGo.mono H (zKi_mono ?_)
        intro v7 w6 H
        refine g_s (pc' := 125) rfl ?_
        refine g_calli (a := m_X8_bridgeComesRound) (as := [.ref 1000, .ref q1, .int v7, .long b1]) (rest := []) (ls0 := [.ref 1000, .ref q1, .int v7, .long b1, zJ, zJ, zJ]) (pc' := 128) (t_virt rfl rfl rfl rfl rfl rfl) rfl rfl rfl ?_
        refine zGo.mono H (zKi_mono ?_)
        intro v9 w8 H
        refine g_ifeq (pc' := 131) rfl rfl (fun hc => ?_) (fun hc => ?_)
        · replace H := H.1 hc
          refine g_psh (pc' := 136) (v' := .int 0) rfl (congrArg Value.int kc_i0) ?_
          exact H
        · replace H := H.2 hc
          refine g_psh (pc' := 132) (v' := .int 1) rfl (congrArg Value.int kc_i1) ?_
          refine g_s (pc' := 136) rfl ?_
          exact H
set_option maxHeartbeats 4000000 in
theorem B_X8_passComesRound_136 {d : Nat} {w : zm} {F : Int32 → zm → Prop} (b1 : Int64) (p3 : Nat) (a4 : Int32) (s0 : Int32)
    (H : ((s0 = 0 → (s0 = 0 ∨ s0 = 1) ∧ F s0 w) ∧ (¬ s0 = 0 → (yT w p3) ∧ (s0 = 0 ∨ s0 = 1) ∧ F s0 (yuI (yuL w 1000 10 ((yL w 1000 10) + (1 : Int64))) p3 8 ((yI w p3 8) + (1 : Int32)))))) :
    zGo (d + 1) m_X8_passComesRound 136 [.ref 1000, .long b1, zJ, .ref p3, .int a4, zJ] [.int s0] (yz w) (zKi F) := by
  refine g_ist (k := 5) (pc' := 138) (ls' := [.ref 1000, .long b1, zJ, .ref p3, .int a4, .int s0]) rfl rfl rfl rfl (zst1_of rfl (Or.inr rfl) rfl) ?_
  refine g_s (pc' := 140) rfl ?_
  refine g_ifeq (pc' := 143) rfl rfl (fun hc => ?_) (fun hc => ?_)
  · replace H := H.1 hc
    refine g_s (pc' := 165) rfl ?_
    obtain ⟨hz1, H⟩ := H
    exact g_reti rfl (zbool _ hz1) H
  · replace H := H.2 hc
    refine g_s (pc' := 144) rfl ?_
    refine g_s (pc' := 145) rfl ?_
    refine g_getf (pc' := 148) (v := .long (yL w 1000 10)) rfl rfl rfl rfl rfl ?_
    refine g_psh (pc' := 149) (v' := .long 1) rfl (congrArg Value.long kc_l1) ?_
    refine g_s (pc' := 150) (st' := [.long ((yL w 1000 10) + (1 : Int64)), .ref 1000]) rfl ?_
    refine g_putL (pc' := 153) rfl rfl rfl rfl rfl rfl (fun _ => rfl) ?_
    refine g_s (pc' := 154) rfl ?_
    refine g_s (pc' := 155) rfl ?_
    obtain ⟨hs2, H⟩ := H
    refine g_getf (pc' := 158) (v := .int (yI w p3 8)) rfl rfl (yT_k hs2) rfl rfl ?_
    refine g_psh (pc' := 159) (v' := .int 1) rfl (congrArg Value.int kc_i1) ?_
    refine g_s (pc' := 160) (st' := [.int ((yI w p3 8) + (1 : Int32)), .ref p3]) rfl ?_
    refine g_putI (pc' := 163) rfl rfl (yT_k hs2) rfl (yT_b hs2) rfl (fun _ => rfl) ?_
    refine g_s (pc' := 165) rfl ?_
    obtain ⟨hz3, H⟩ := H
    exact g_reti rfl (zbool _ hz3) H
set_option maxHeartbeats 4000000 in
theorem B_X8_place_0 {d : Nat} {w : zm} {F : Int32 → zm → Prop} 
    (H : F (yI w 1003 4) w) :
    zGo d m_X8_place 0 [.ref 1000] [] (yz w) (zKi F) := by
  refine g_s (pc' := 1) rfl ?_
  refine g_getf (pc' := 4) (v := .ref 1003) rfl rfl rfl rfl rfl ?_
  refine g_getf (pc' := 7) (v := .int (yI w 1003 4)) rfl rfl rfl rfl rfl ?_
  exact g_reti rfl rfl H
set_option maxHeartbeats 4000000 in
theorem B_X8_poke_0 {d : Nat} {w : zm} {F : Int32 → zm → Prop} {X : Nat → zm → Prop} (hd : Nat.ble 6 (d + 1) = true) (a1 : Int32) (a2 : Int32)
    (H : ((a1 < 0 → X 0 (yuX w )) ∧ (¬ a1 < 0 → (((yI w 1003 3) < a1 → X 0 (yuX w )) ∧ (¬ (yI w 1003 3) < a1 → ((a1 < (200 : Int32) → (((yI w 1007 5) = 0 → zGo d m_X0_put 0 [.ref 1003, .int a1, .int a2] [] (yz w) (zKv fun w1 => F (yI w1 1003 3) w1)) ∧ (¬ (yI w 1007 5) = 0 → X 1 (yuX w )))) ∧ (¬ a1 < (200 : Int32) → X 0 (yuX w )))))))) :
    zGo (d + 1) m_X8_poke 0 [.ref 1000, .int a1, .int a2] [] (yz w) (zXi F X) := by
  refine g_s (pc' := 1) rfl ?_
  refine g_iflt (pc' := 4) rfl rfl (fun hc => ?_) (fun hc => ?_)
  · replace H := H.1 hc
    exact g_throw rfl hd rfl (fun E w h => Or.inr ⟨E, w, rfl, rfl, h⟩) H
  · replace H := H.2 hc
    refine g_s (pc' := 5) rfl ?_
    refine g_s (pc' := 6) rfl ?_
    refine g_getf (pc' := 9) (v := .ref 1003) rfl rfl rfl rfl rfl ?_
    refine g_getf (pc' := 12) (v := .int (yI w 1003 3)) rfl rfl rfl rfl rfl ?_
    refine g_icgt (pc' := 15) rfl rfl (fun hc => ?_) (fun hc => ?_)
    · replace H := H.1 hc
      exact g_throw rfl hd rfl (fun E w h => Or.inr ⟨E, w, rfl, rfl, h⟩) H
    · replace H := H.2 hc
      refine g_s (pc' := 16) rfl ?_
      refine g_psh (pc' := 19) (v' := .int 200) rfl (congrArg Value.int kc_s200) ?_
      refine g_iclt (pc' := 22) rfl rfl (fun hc => ?_) (fun hc => ?_)
      · replace H := H.1 hc
        refine g_s (pc' := 33) rfl ?_
        refine g_getf (pc' := 36) (v := .ref 1007) rfl rfl rfl rfl rfl ?_
        refine g_getf (pc' := 39) (v := .int (yI w 1007 5)) rfl rfl rfl rfl rfl ?_
        refine g_ifeq (pc' := 42) rfl rfl (fun hc => ?_) (fun hc => ?_)
        · replace H := H.1 hc
          refine g_s (pc' := 53) rfl ?_
          refine g_getf (pc' := 56) (v := .ref 1003) rfl rfl rfl rfl rfl ?_
          refine g_s (pc' := 57) rfl ?_
          refine g_s (pc' := 58) rfl ?_
          refine g_callv (a := m_X0_put) (as := [.ref 1003, .int a1, .int a2]) (rest := []) (ls0 := [.ref 1003, .int a1, .int a2]) (pc' := 61) (t_virt rfl rfl rfl rfl rfl rfl) rfl rfl rfl ?_
          refine zGo.mono H (zKv_mono ?_)
          intro w1 H
          refine g_s (pc' := 62) rfl ?_
          refine g_getf (pc' := 65) (v := .ref 1003) rfl rfl rfl rfl rfl ?_
          refine g_getf (pc' := 68) (v := .int (yI w1 1003 3)) rfl rfl rfl rfl rfl ?_
          exact g_xreti rfl rfl H
        · replace H := H.2 hc
          exact g_throw rfl hd rfl (fun E w h => Or.inr ⟨E, w, rfl, rfl, h⟩) H
      · replace H := H.2 hc
        exact g_throw rfl hd rfl (fun E w h => Or.inr ⟨E, w, rfl, rfl, h⟩) H
set_option maxHeartbeats 4000000 in
theorem B_X8_recording_0 {d : Nat} {w : zm} {F : Int32 → zm → Prop} 
    (H : zGo d m_X4_isOn 0 [.ref 1025] [] (yz w) (zKi fun v2 w1 => ((v2 = 0 → F (-1 : Int32) w1) ∧ (¬ v2 = 0 → zGo d m_X4_isOfBridge 0 [.ref 1025] [] (yz w1) (zKi fun v4 w3 => ((v4 = 0 → F (yI w3 1025 1) w3) ∧ (¬ v4 = 0 → F ((yI w3 1025 1) + (1000 : Int32)) w3))))))) :
    zGo (d + 1) m_X8_recording 0 [.ref 1000] [] (yz w) (zKi F) := by
  refine g_s (pc' := 1) rfl ?_
  refine g_getf (pc' := 4) (v := .ref 1025) rfl rfl rfl rfl rfl ?_
  refine g_calli (a := m_X4_isOn) (as := [.ref 1025]) (rest := []) (ls0 := [.ref 1025]) (pc' := 7) (t_virt rfl rfl rfl rfl rfl rfl) rfl rfl rfl ?_
  refine zGo.mono H (zKi_mono ?_)
  intro v2 w1 H
  refine g_ifne (pc' := 10) rfl rfl (fun hc => ?_) (fun hc => ?_)
  · replace H := H.1 hc
    refine g_psh (pc' := 11) (v' := .int (-1)) rfl (congrArg Value.int kc_im1) ?_
    exact g_reti rfl rfl H
  · replace H := H.2 hc
    refine g_s (pc' := 13) rfl ?_
    refine g_getf (pc' := 16) (v := .ref 1025) rfl rfl rfl rfl rfl ?_
    refine g_calli (a := m_X4_isOfBridge) (as := [.ref 1025]) (rest := []) (ls0 := [.ref 1025]) (pc' := 19) (t_virt rfl rfl rfl rfl rfl rfl) rfl rfl rfl ?_
    refine zGo.mono H (zKi_mono ?_)
    intro v4 w3 H
    refine g_ifeq (pc' := 22) rfl rfl (fun hc => ?_) (fun hc => ?_)
    · replace H := H.1 hc
      refine g_s (pc' := 37) rfl ?_
      refine g_getf (pc' := 40) (v := .ref 1025) rfl rfl rfl rfl rfl ?_
      refine g_getf (pc' := 43) (v := .int (yI w3 1025 1)) rfl rfl rfl rfl rfl ?_
      exact g_reti rfl rfl H
    · replace H := H.2 hc
      refine g_s (pc' := 23) rfl ?_
      refine g_getf (pc' := 26) (v := .ref 1025) rfl rfl rfl rfl rfl ?_
      refine g_getf (pc' := 29) (v := .int (yI w3 1025 1)) rfl rfl rfl rfl rfl ?_
      refine g_psh (pc' := 32) (v' := .int 1000) rfl (congrArg Value.int kc_s1000) ?_
      refine g_s (pc' := 33) (st' := [.int ((yI w3 1025 1) + (1000 : Int32))]) rfl ?_
      refine g_s (pc' := 43) rfl ?_
      exact g_reti rfl rfl H
set_option maxHeartbeats 4000000 in
theorem B_X8_reset_0 {d : Nat} {w : zm} {F : zm → Prop} 
    (H : zGo d m_X0_clear 0 [.ref 1003] [] (yz w) (zKv fun w1 => zGo d m_X1_toBeginning 0 [.ref 1007] [] (yz w1) (zKv fun w2 => zGo d m_J7_fill_53178 0 [.ref 1008, .int (0 : Int32), zJ, zJ] [] (yz w2) (zKv fun w3 => zGo d m_X6_clear 0 [.ref 1022, zJ] [] (yz (yuI w3 1007 5 (0 : Int32))) (zKv fun w4 => zGo d m_X4_drop 0 [.ref 1025] [] (yz w4) (zKv fun w5 => zGo d m_J7_fill_53178 0 [.ref 1001, .int (0 : Int32), zJ, zJ] [] (yz w5) (zKv fun w6 => zGo d m_J7_fill_53178 0 [.ref 1002, .int (0 : Int32), zJ, zJ] [] (yz w6) (zKv fun w7 => F (yuL (yuL (yuL (yuL (yuL w7 1000 8 (0 : Int64)) 1000 9 (0 : Int64)) 1000 10 (0 : Int64)) 1000 11 (0 : Int64)) 1000 12 (0 : Int64)))))))))) :
    zGo (d + 1) m_X8_reset 0 [.ref 1000] [] (yz w) (zKv F) := by
  refine g_s (pc' := 1) rfl ?_
  refine g_getf (pc' := 4) (v := .ref 1003) rfl rfl rfl rfl rfl ?_
  refine g_callv (a := m_X0_clear) (as := [.ref 1003]) (rest := []) (ls0 := [.ref 1003]) (pc' := 7) (t_virt rfl rfl rfl rfl rfl rfl) rfl rfl rfl ?_
  refine zGo.mono H (zKv_mono ?_)
  intro w1 H
  refine g_s (pc' := 8) rfl ?_
  refine g_getf (pc' := 11) (v := .ref 1007) rfl rfl rfl rfl rfl ?_
  refine g_callv (a := m_X1_toBeginning) (as := [.ref 1007]) (rest := []) (ls0 := [.ref 1007]) (pc' := 14) (t_virt rfl rfl rfl rfl rfl rfl) rfl rfl rfl ?_
  refine zGo.mono H (zKv_mono ?_)
  intro w2 H
  refine g_s (pc' := 15) rfl ?_
  refine g_getf (pc' := 18) (v := .ref 1007) rfl rfl rfl rfl rfl ?_
  refine g_getf (pc' := 21) (v := .ref 1008) rfl rfl rfl rfl rfl ?_
  refine g_psh (pc' := 22) (v' := .int 0) rfl (congrArg Value.int kc_i0) ?_
  refine g_callv (a := m_J7_fill_53178) (as := [.ref 1008, .int (0 : Int32)]) (rest := []) (ls0 := [.ref 1008, .int (0 : Int32), zJ, zJ]) (pc' := 25) (t_stat rfl (Or.inl rfl) rfl rfl rfl rfl) rfl rfl rfl ?_
  refine zGo.mono H (zKv_mono ?_)
  intro w3 H
  refine g_s (pc' := 26) rfl ?_
  refine g_getf (pc' := 29) (v := .ref 1007) rfl rfl rfl rfl rfl ?_
  refine g_psh (pc' := 30) (v' := .int 0) rfl (congrArg Value.int kc_i0) ?_
  refine g_putI (pc' := 33) rfl rfl rfl rfl rfl rfl (fun _ => rfl) ?_
  refine g_s (pc' := 34) rfl ?_
  refine g_getf (pc' := 37) (v := .ref 1022) rfl rfl rfl rfl rfl ?_
  refine g_callv (a := m_X6_clear) (as := [.ref 1022]) (rest := []) (ls0 := [.ref 1022, zJ]) (pc' := 40) (t_virt rfl rfl rfl rfl rfl rfl) rfl rfl rfl ?_
  refine zGo.mono H (zKv_mono ?_)
  intro w4 H
  refine g_s (pc' := 41) rfl ?_
  refine g_getf (pc' := 44) (v := .ref 1025) rfl rfl rfl rfl rfl ?_
  refine g_callv (a := m_X4_drop) (as := [.ref 1025]) (rest := []) (ls0 := [.ref 1025]) (pc' := 47) (t_virt rfl rfl rfl rfl rfl rfl) rfl rfl rfl ?_
  refine zGo.mono H (zKv_mono ?_)
  intro w5 H
  refine g_s (pc' := 48) rfl ?_
  refine g_getf (pc' := 51) (v := .ref 1001) rfl rfl rfl rfl rfl ?_
  refine g_psh (pc' := 52) (v' := .int 0) rfl (congrArg Value.int kc_i0) ?_
  refine g_callv (a := m_J7_fill_53178) (as := [.ref 1001, .int (0 : Int32)]) (rest := []) (ls0 := [.ref 1001, .int (0 : Int32), zJ, zJ]) (pc' := 55) (t_stat rfl (Or.inl rfl) rfl rfl rfl rfl) rfl rfl rfl ?_
  refine zGo.mono H (zKv_mono ?_)
  intro w6 H
  refine g_s (pc' := 56) rfl ?_
  refine g_getf (pc' := 59) (v := .ref 1002) rfl rfl rfl rfl rfl ?_
  refine g_psh (pc' := 60) (v' := .int 0) rfl (congrArg Value.int kc_i0) ?_
  refine g_callv (a := m_J7_fill_53178) (as := [.ref 1002, .int (0 : Int32)]) (rest := []) (ls0 := [.ref 1002, .int (0 : Int32), zJ, zJ]) (pc' := 63) (t_stat rfl (Or.inl rfl) rfl rfl rfl rfl) rfl rfl rfl ?_
  refine zGo.mono H (zKv_mono ?_)
  intro w7 H
  refine g_s (pc' := 64) rfl ?_
  refine g_psh (pc' := 65) (v' := .long 0) rfl (congrArg Value.long kc_l0) ?_
  refine g_putL (pc' := 68) rfl rfl rfl rfl rfl rfl (fun _ => rfl) ?_
  refine g_s (pc' := 69) rfl ?_
  refine g_psh (pc' := 70) (v' := .long 0) rfl (congrArg Value.long kc_l0) ?_
  refine g_putL (pc' := 73) rfl rfl rfl rfl rfl rfl (fun _ => rfl) ?_
  refine g_s (pc' := 74) rfl ?_
  refine g_psh (pc' := 75) (v' := .long 0) rfl (congrArg Value.long kc_l0) ?_
  refine g_putL (pc' := 78) rfl rfl rfl rfl rfl rfl (fun _ => rfl) ?_
  refine g_s (pc' := 79) rfl ?_
  refine g_psh (pc' := 80) (v' := .long 0) rfl (congrArg Value.long kc_l0) ?_
  refine g_putL (pc' := 83) rfl rfl rfl rfl rfl rfl (fun _ => rfl) ?_
  refine g_s (pc' := 84) rfl ?_
  refine g_psh (pc' := 85) (v' := .long 0) rfl (congrArg Value.long kc_l0) ?_
  refine g_putL (pc' := 88) rfl rfl rfl rfl rfl rfl (fun _ => rfl) ?_
  exact g_retv rfl rfl H
set_option maxHeartbeats 4000000 in
theorem B_X8_result_0 {d : Nat} {w : zm} {F : Int32 → zm → Prop} (a0 : Int32) (a1 : Int32) (a2 : Int32)
    (H : (((a0.toInt < 4 ∨ 17 < a0.toInt) → F (0 : Int32) w) ∧ ((a0.toInt = 4) → F (a1 + a2) w) ∧ ((a0.toInt = 5) → F (a1 - a2) w) ∧ ((a0.toInt = 6) → F (a1 * a2) w) ∧ ((a0.toInt = 7) → ((a2 = 0 → F (0 : Int32) w) ∧ (¬ a2 = 0 → (¬ a2 = 0) ∧ F (a1 / a2) w))) ∧ ((a0.toInt = 8) → ((a2 = 0 → F (0 : Int32) w) ∧ (¬ a2 = 0 → (¬ a2 = 0) ∧ F (a1 - a1 / a2 * a2) w))) ∧ ((a0.toInt = 9) → F (a1 &&& a2) w) ∧ ((a0.toInt = 10) → F (a1 ||| a2) w) ∧ ((a0.toInt = 11) → F (a1 ^^^ a2) w) ∧ ((a0.toInt = 12) → F (a1 <<< ((a2 &&& (31 : Int32)) &&& 31)) w) ∧ ((a0.toInt = 13) → F (a1 >>> ((a2 &&& (31 : Int32)) &&& 31)) w) ∧ ((a0.toInt = 14) → ((a1 < a2 → F (1 : Int32) w) ∧ (¬ a1 < a2 → F (0 : Int32) w))) ∧ ((a0.toInt = 15) → ((a1 = a2 → F (1 : Int32) w) ∧ (¬ a1 = a2 → F (0 : Int32) w))) ∧ ((a0.toInt = 16) → F (-a1) w) ∧ ((a0.toInt = 17) → ((a1 = 0 → F (1 : Int32) w) ∧ (¬ a1 = 0 → F (0 : Int32) w))))) :
    zGo d m_X8_result 0 [.int a0, .int a1, .int a2] [] (yz w) (zKi F) := by
  refine g_s (pc' := 1) rfl ?_
  refine g_tsw rfl (fun hx => ?_) (fun j hx hy => ?_)
  · replace H := H.1 (by omega)
    show zGo d m_X8_result 169 [.int a0, .int a1, .int a2] [] (yz w) (zKi F)
    refine g_psh (pc' := 170) (v' := .int 0) rfl (congrArg Value.int kc_i0) ?_
    exact g_reti rfl rfl H
  · have hj : j < 14 := by omega
    match j, hj, hx with
    | 0, _, hx =>
      refine ⟨71, rfl, ?_⟩
      replace H := H.2.1 (by omega)
      show zGo d m_X8_result 72 [.int a0, .int a1, .int a2] [] (yz w) (zKi F)
      refine g_s (pc' := 73) rfl ?_
      refine g_s (pc' := 74) rfl ?_
      refine g_s (pc' := 75) (st' := [.int (a1 + a2)]) rfl ?_
      exact g_reti rfl rfl H
    | 1, _, hx =>
      refine ⟨75, rfl, ?_⟩
      replace H := H.2.2.1 (by omega)
      show zGo d m_X8_result 76 [.int a0, .int a1, .int a2] [] (yz w) (zKi F)
      refine g_s (pc' := 77) rfl ?_
      refine g_s (pc' := 78) rfl ?_
      refine g_s (pc' := 79) (st' := [.int (a1 - a2)]) rfl ?_
      exact g_reti rfl rfl H
    | 2, _, hx =>
      refine ⟨79, rfl, ?_⟩
      replace H := H.2.2.2.1 (by omega)
      show zGo d m_X8_result 80 [.int a0, .int a1, .int a2] [] (yz w) (zKi F)
      refine g_s (pc' := 81) rfl ?_
      refine g_s (pc' := 82) rfl ?_
      refine g_s (pc' := 83) (st' := [.int (a1 * a2)]) rfl ?_
      exact g_reti rfl rfl H
    | 3, _, hx =>
      refine ⟨83, rfl, ?_⟩
      replace H := H.2.2.2.2.1 (by omega)
      show zGo d m_X8_result 84 [.int a0, .int a1, .int a2] [] (yz w) (zKi F)
      refine g_s (pc' := 85) rfl ?_
      refine g_ifne (pc' := 88) rfl rfl (fun hc => ?_) (fun hc => ?_)
      · replace H := H.1 hc
        refine g_psh (pc' := 89) (v' := .int 0) rfl (congrArg Value.int kc_i0) ?_
        refine g_s (pc' := 95) rfl ?_
        exact g_reti rfl rfl H
      · replace H := H.2 hc
        refine g_s (pc' := 93) rfl ?_
        refine g_s (pc' := 94) rfl ?_
        obtain ⟨hv1, H⟩ := H
        refine g_div (pc' := 95) (f := (fun x y => x / y)) rfl rfl rfl rfl hv1 ?_
        show zGo d m_X8_result 95 [.int a0, .int a1, .int a2] [.int (a1 / a2)] (yz w) (zKi F)
        exact g_reti rfl rfl H
    | 4, _, hx =>
      refine ⟨95, rfl, ?_⟩
      replace H := H.2.2.2.2.2.1 (by omega)
      show zGo d m_X8_result 96 [.int a0, .int a1, .int a2] [] (yz w) (zKi F)
      refine g_s (pc' := 97) rfl ?_
      refine g_ifne (pc' := 100) rfl rfl (fun hc => ?_) (fun hc => ?_)
      · replace H := H.1 hc
        refine g_psh (pc' := 101) (v' := .int 0) rfl (congrArg Value.int kc_i0) ?_
        refine g_s (pc' := 107) rfl ?_
        exact g_reti rfl rfl H
      · replace H := H.2 hc
        refine g_s (pc' := 105) rfl ?_
        refine g_s (pc' := 106) rfl ?_
        obtain ⟨hv2, H⟩ := H
        refine g_div (pc' := 107) (f := (fun x y => x - x / y * y)) rfl rfl rfl rfl hv2 ?_
        show zGo d m_X8_result 107 [.int a0, .int a1, .int a2] [.int (a1 - a1 / a2 * a2)] (yz w) (zKi F)
        exact g_reti rfl rfl H
    | 5, _, hx =>
      refine ⟨107, rfl, ?_⟩
      replace H := H.2.2.2.2.2.2.1 (by omega)
      show zGo d m_X8_result 108 [.int a0, .int a1, .int a2] [] (yz w) (zKi F)
      refine g_s (pc' := 109) rfl ?_
      refine g_s (pc' := 110) rfl ?_
      refine g_s (pc' := 111) (st' := [.int (a1 &&& a2)]) rfl ?_
      exact g_reti rfl rfl H
    | 6, _, hx =>
      refine ⟨111, rfl, ?_⟩
      replace H := H.2.2.2.2.2.2.2.1 (by omega)
      show zGo d m_X8_result 112 [.int a0, .int a1, .int a2] [] (yz w) (zKi F)
      refine g_s (pc' := 113) rfl ?_
      refine g_s (pc' := 114) rfl ?_
      refine g_s (pc' := 115) (st' := [.int (a1 ||| a2)]) rfl ?_
      exact g_reti rfl rfl H
    | 7, _, hx =>
      refine ⟨115, rfl, ?_⟩
      replace H := H.2.2.2.2.2.2.2.2.1 (by omega)
      show zGo d m_X8_result 116 [.int a0, .int a1, .int a2] [] (yz w) (zKi F)
      refine g_s (pc' := 117) rfl ?_
      refine g_s (pc' := 118) rfl ?_
      refine g_s (pc' := 119) (st' := [.int (a1 ^^^ a2)]) rfl ?_
      exact g_reti rfl rfl H
    | 8, _, hx =>
      refine ⟨119, rfl, ?_⟩
      replace H := H.2.2.2.2.2.2.2.2.2.1 (by omega)
      show zGo d m_X8_result 120 [.int a0, .int a1, .int a2] [] (yz w) (zKi F)
      refine g_s (pc' := 121) rfl ?_
      refine g_s (pc' := 122) rfl ?_
      refine g_psh (pc' := 124) (v' := .int 31) rfl (congrArg Value.int kc_b31) ?_
      refine g_s (pc' := 125) (st' := [.int (a2 &&& (31 : Int32)), .int a1]) rfl ?_
      refine g_s (pc' := 126) (st' := [.int (a1 <<< ((a2 &&& (31 : Int32)) &&& 31))]) rfl ?_
      exact g_reti rfl rfl H
    | 9, _, hx =>
      refine ⟨126, rfl, ?_⟩
      replace H := H.2.2.2.2.2.2.2.2.2.2.1 (by omega)
      show zGo d m_X8_result 127 [.int a0, .int a1, .int a2] [] (yz w) (zKi F)
      refine g_s (pc' := 128) rfl ?_
      refine g_s (pc' := 129) rfl ?_
      refine g_psh (pc' := 131) (v' := .int 31) rfl (congrArg Value.int kc_b31) ?_
      refine g_s (pc' := 132) (st' := [.int (a2 &&& (31 : Int32)), .int a1]) rfl ?_
      refine g_s (pc' := 133) (st' := [.int (a1 >>> ((a2 &&& (31 : Int32)) &&& 31))]) rfl ?_
      exact g_reti rfl rfl H
    | 10, _, hx =>
      refine ⟨133, rfl, ?_⟩
      replace H := H.2.2.2.2.2.2.2.2.2.2.2.1 (by omega)
      show zGo d m_X8_result 134 [.int a0, .int a1, .int a2] [] (yz w) (zKi F)
      refine g_s (pc' := 135) rfl ?_
      refine g_s (pc' := 136) rfl ?_
      refine g_icge (pc' := 139) rfl rfl (fun hc => ?_) (fun hc => ?_)
      · replace H := H.1 hc
        refine g_psh (pc' := 140) (v' := .int 1) rfl (congrArg Value.int kc_i1) ?_
        refine g_s (pc' := 144) rfl ?_
        exact g_reti rfl rfl H
      · replace H := H.2 hc
        refine g_psh (pc' := 144) (v' := .int 0) rfl (congrArg Value.int kc_i0) ?_
        exact g_reti rfl rfl H
    | 11, _, hx =>
      refine ⟨144, rfl, ?_⟩
      replace H := H.2.2.2.2.2.2.2.2.2.2.2.2.1 (by omega)
      show zGo d m_X8_result 145 [.int a0, .int a1, .int a2] [] (yz w) (zKi F)
      refine g_s (pc' := 146) rfl ?_
      refine g_s (pc' := 147) rfl ?_
      refine g_icne (pc' := 150) rfl rfl (fun hc => ?_) (fun hc => ?_)
      · replace H := H.1 hc
        refine g_psh (pc' := 151) (v' := .int 1) rfl (congrArg Value.int kc_i1) ?_
        refine g_s (pc' := 155) rfl ?_
        exact g_reti rfl rfl H
      · replace H := H.2 hc
        refine g_psh (pc' := 155) (v' := .int 0) rfl (congrArg Value.int kc_i0) ?_
        exact g_reti rfl rfl H
    | 12, _, hx =>
      refine ⟨155, rfl, ?_⟩
      replace H := H.2.2.2.2.2.2.2.2.2.2.2.2.2.1 (by omega)
      show zGo d m_X8_result 156 [.int a0, .int a1, .int a2] [] (yz w) (zKi F)
      refine g_s (pc' := 157) rfl ?_
      refine g_s (pc' := 158) (st' := [.int (-a1)]) rfl ?_
      exact g_reti rfl rfl H
    | 13, _, hx =>
      refine ⟨158, rfl, ?_⟩
      replace H := H.2.2.2.2.2.2.2.2.2.2.2.2.2.2 (by omega)
      show zGo d m_X8_result 159 [.int a0, .int a1, .int a2] [] (yz w) (zKi F)
      refine g_s (pc' := 160) rfl ?_
      refine g_ifne (pc' := 163) rfl rfl (fun hc => ?_) (fun hc => ?_)
      · replace H := H.1 hc
        refine g_psh (pc' := 164) (v' := .int 1) rfl (congrArg Value.int kc_i1) ?_
        refine g_s (pc' := 168) rfl ?_
        exact g_reti rfl rfl H
      · replace H := H.2 hc
        refine g_psh (pc' := 168) (v' := .int 0) rfl (congrArg Value.int kc_i0) ?_
        exact g_reti rfl rfl H
    | _ + 14, hj, _ => exact absurd hj (by omega)
set_option maxHeartbeats 4000000 in
theorem B_X8_run_0 {d : Nat} {w : zm} {F : Int32 → zm → Prop} {X : Nat → zm → Prop} (hd : Nat.ble 6 (d + 1) = true) (a1 : Int32)
    (H : ((a1 < 0 → X 2 (yuX w )) ∧ (¬ a1 < 0 → (((100000 : Int32) < a1 → X 2 (yuX w )) ∧ (¬ (100000 : Int32) < a1 → (((yI w 1007 5) = (2 : Int32) → zGo (d + 1) m_X8_run 55 [.ref 1000, .int a1, .long ((yL w 1007 8) + (Int32.toInt64 a1)), zJ, .int (0 : Int32)] [] (yz w) (zXi F X)) ∧ (¬ (yI w 1007 5) = (2 : Int32) → X 1 (yuX w )))))))) :
    zGo (d + 1) m_X8_run 0 [.ref 1000, .int a1, zJ, zJ, zJ] [] (yz w) (zXi F X) := by
  refine g_s (pc' := 1) rfl ?_
  refine g_iflt (pc' := 4) rfl rfl (fun hc => ?_) (fun hc => ?_)
  · replace H := H.1 hc
    exact g_throw rfl hd rfl (fun E w h => Or.inr ⟨E, w, rfl, rfl, h⟩) H
  · replace H := H.2 hc
    refine g_s (pc' := 5) rfl ?_
    refine g_psh (pc' := 7) (v' := .int 100000) rfl (congrArg Value.int kc_n100000) ?_
    refine g_icle (pc' := 10) rfl rfl (fun hc => ?_) (fun hc => ?_)
    · replace H := H.1 hc
      exact g_throw rfl hd rfl (fun E w h => Or.inr ⟨E, w, rfl, rfl, h⟩) H
    · replace H := H.2 hc
      refine g_s (pc' := 21) rfl ?_
      refine g_getf (pc' := 24) (v := .ref 1007) rfl rfl rfl rfl rfl ?_
      refine g_getf (pc' := 27) (v := .int (yI w 1007 5)) rfl rfl rfl rfl rfl ?_
      refine g_psh (pc' := 28) (v' := .int 2) rfl (congrArg Value.int kc_i2) ?_
      refine g_iceq (pc' := 31) rfl rfl (fun hc => ?_) (fun hc => ?_)
      · replace H := H.1 hc
        refine g_s (pc' := 42) rfl ?_
        refine g_getf (pc' := 45) (v := .ref 1007) rfl rfl rfl rfl rfl ?_
        refine g_getf (pc' := 48) (v := .long (yL w 1007 8)) rfl rfl rfl rfl rfl ?_
        refine g_s (pc' := 49) rfl ?_
        refine g_s (pc' := 50) (st' := [.long (Int32.toInt64 a1), .long (yL w 1007 8)]) rfl ?_
        refine g_s (pc' := 51) (st' := [.long ((yL w 1007 8) + (Int32.toInt64 a1))]) rfl ?_
        refine g_lst (k := 2) (pc' := 52) (ls' := [.ref 1000, .int a1, .long ((yL w 1007 8) + (Int32.toInt64 a1)), zJ, zJ]) rfl rfl rfl rfl (zst2_of rfl (Or.inr rfl) rfl) ?_
        refine g_psh (pc' := 53) (v' := .int 0) rfl (congrArg Value.int kc_i0) ?_
        refine g_ist (k := 4) (pc' := 55) (ls' := [.ref 1000, .int a1, .long ((yL w 1007 8) + (Int32.toInt64 a1)), zJ, .int (0 : Int32)]) rfl rfl rfl rfl (zst1_of rfl (Or.inr rfl) rfl) ?_
        exact H
      · replace H := H.2 hc
        exact g_throw rfl hd rfl (fun E w h => Or.inr ⟨E, w, rfl, rfl, h⟩) H
set_option maxHeartbeats 4000000 in
theorem B_X8_run_55 {d : Nat} {w : zm} {F : Int32 → zm → Prop} {X : Nat → zm → Prop} (hd : Nat.ble 6 (d + 1) = true) (a1 : Int32) (b2 : Int64) (a4 : Int32)
    (H : ((a4 < a1 → (((lg_cmp (yL w 1007 8) b2) < 0 → (((yI w 1007 5) = (2 : Int32) → zGo d m_X8_cutIsDue 0 [.ref 1000] [] (yz w) (zKi fun v2 w1 => ((v2 = 0 → zGo d m_X8_passComesRound 0 [.ref 1000, .long b2, zJ, zJ, zJ, zJ] [] (yz w1) (zKi fun v4 w3 => ((v4 = 0 → zGo d m_X8_stepPlainly 0 [.ref 1000, zJ, zJ] [] (yz w3) (zKv fun w5 => zGo (d + 1) m_X8_run 107 [.ref 1000, .int a1, .long b2, zJ, .int a4] [] (yz w5) (zXi F X))) ∧ (¬ v4 = 0 → zGo (d + 1) m_X8_run 107 [.ref 1000, .int a1, .long b2, zJ, .int a4] [] (yz w3) (zXi F X))))) ∧ (¬ v2 = 0 → zGo d m_X8_cutOff 0 [.ref 1000, zJ] [] (yz w1) (zKv fun w6 => zGo d m_X8_passComesRound 0 [.ref 1000, .long b2, zJ, zJ, zJ, zJ] [] (yz w6) (zKi fun v8 w7 => ((v8 = 0 → zGo d m_X8_stepPlainly 0 [.ref 1000, zJ, zJ] [] (yz w7) (zKv fun w9 => zGo (d + 1) m_X8_run 107 [.ref 1000, .int a1, .long b2, zJ, .int a4] [] (yz w9) (zXi F X))) ∧ (¬ v8 = 0 → zGo (d + 1) m_X8_run 107 [.ref 1000, .int a1, .long b2, zJ, .int a4] [] (yz w7) (zXi F X))))))))) ∧ (¬ (yI w 1007 5) = (2 : Int32) → F (yI w 1007 5) w))) ∧ (¬ (lg_cmp (yL w 1007 8) b2) < 0 → F (yI w 1007 5) w))) ∧ (¬ a4 < a1 → F (yI w 1007 5) w))) :
    zGo (d + 1) m_X8_run 55 [.ref 1000, .int a1, .long b2, zJ, .int a4] [] (yz w) (zXi F X) := by
  refine g_s (pc' := 57) rfl ?_
  refine g_s (pc' := 58) rfl ?_
  refine g_icge (pc' := 61) rfl rfl (fun hc => ?_) (fun hc => ?_)
  · replace H := H.1 hc
    refine g_s (pc' := 62) rfl ?_
    refine g_getf (pc' := 65) (v := .ref 1007) rfl rfl rfl rfl rfl ?_
    refine g_getf (pc' := 68) (v := .long (yL w 1007 8)) rfl rfl rfl rfl rfl ?_
    refine g_s (pc' := 69) rfl ?_
    refine g_s (pc' := 70) (st' := [.int (lg_cmp (yL w 1007 8) b2)]) rfl ?_
    refine g_ifge (pc' := 73) rfl rfl (fun hc => ?_) (fun hc => ?_)
    · replace H := H.1 hc
      refine g_s (pc' := 74) rfl ?_
      refine g_getf (pc' := 77) (v := .ref 1007) rfl rfl rfl rfl rfl ?_
      refine g_getf (pc' := 80) (v := .int (yI w 1007 5)) rfl rfl rfl rfl rfl ?_
      refine g_psh (pc' := 81) (v' := .int 2) rfl (congrArg Value.int kc_i2) ?_
      refine g_icne (pc' := 84) rfl rfl (fun hc => ?_) (fun hc => ?_)
      · replace H := H.1 hc
        refine g_s (pc' := 85) rfl ?_
        refine g_calli (a := m_X8_cutIsDue) (as := [.ref 1000]) (rest := []) (ls0 := [.ref 1000]) (pc' := 88) (t_virt rfl rfl rfl rfl rfl rfl) rfl rfl rfl ?_
        refine zGo.mono H (zKi_mono ?_)
        intro v2 w1 H
        refine g_ifeq (pc' := 91) rfl rfl (fun hc => ?_) (fun hc => ?_)
        · replace H := H.1 hc
          refine g_s (pc' := 96) rfl ?_
          refine g_s (pc' := 97) rfl ?_
          refine g_calli (a := m_X8_passComesRound) (as := [.ref 1000, .long b2]) (rest := []) (ls0 := [.ref 1000, .long b2, zJ, zJ, zJ, zJ]) (pc' := 100) (t_virt rfl rfl rfl rfl rfl rfl) rfl rfl rfl ?_
          refine zGo.mono H (zKi_mono ?_)
          intro v4 w3 H
          refine g_ifne (pc' := 103) rfl rfl (fun hc => ?_) (fun hc => ?_)
          · replace H := H.1 hc
            refine g_s (pc' := 104) rfl ?_
            refine g_callv (a := m_X8_stepPlainly) (as := [.ref 1000]) (rest := []) (ls0 := [.ref 1000, zJ, zJ]) (pc' := 107) (t_virt rfl rfl rfl rfl rfl rfl) rfl rfl rfl ?_
            refine zGo.mono H (zKv_mono ?_)
            intro w5 H
            exact H
          · replace H := H.2 hc
            exact H
        · replace H := H.2 hc
          refine g_s (pc' := 92) rfl ?_
          refine g_callv (a := m_X8_cutOff) (as := [.ref 1000]) (rest := []) (ls0 := [.ref 1000, zJ]) (pc' := 95) (t_virt rfl rfl rfl rfl rfl rfl) rfl rfl rfl ?_
          refine zGo.mono H (zKv_mono ?_)
          intro w6 H
          refine g_s (pc' := 96) rfl ?_
          refine g_s (pc' := 97) rfl ?_
          refine g_calli (a := m_X8_passComesRound) (as := [.ref 1000, .long b2]) (rest := []) (ls0 := [.ref 1000, .long b2, zJ, zJ, zJ, zJ]) (pc' := 100) (t_virt rfl rfl rfl rfl rfl rfl) rfl rfl rfl ?_
          refine zGo.mono H (zKi_mono ?_)
          intro v8 w7 H
          refine g_ifne (pc' := 103) rfl rfl (fun hc => ?_) (fun hc => ?_)
          · replace H := H.1 hc
            refine g_s (pc' := 104) rfl ?_
            refine g_callv (a := m_X8_stepPlainly) (as := [.ref 1000]) (rest := []) (ls0 := [.ref 1000, zJ, zJ]) (pc' := 107) (t_virt rfl rfl rfl rfl rfl rfl) rfl rfl rfl ?_
            refine zGo.mono H (zKv_mono ?_)
            intro w9 H
            exact H
          · replace H := H.2 hc
            exact H
      · replace H := H.2 hc
        refine g_s (pc' := 135) rfl ?_
        refine g_getf (pc' := 138) (v := .ref 1007) rfl rfl rfl rfl rfl ?_
        refine g_getf (pc' := 141) (v := .int (yI w 1007 5)) rfl rfl rfl rfl rfl ?_
        exact g_xreti rfl rfl H
    · replace H := H.2 hc
      refine g_s (pc' := 135) rfl ?_
      refine g_getf (pc' := 138) (v := .ref 1007) rfl rfl rfl rfl rfl ?_
      refine g_getf (pc' := 141) (v := .int (yI w 1007 5)) rfl rfl rfl rfl rfl ?_
      exact g_xreti rfl rfl H
  · replace H := H.2 hc
    refine g_s (pc' := 135) rfl ?_
    refine g_getf (pc' := 138) (v := .ref 1007) rfl rfl rfl rfl rfl ?_
    refine g_getf (pc' := 141) (v := .int (yI w 1007 5)) rfl rfl rfl rfl rfl ?_
    exact g_xreti rfl rfl H
set_option maxHeartbeats 4000000 in
theorem B_X8_run_107 {d : Nat} {w : zm} {F : Int32 → zm → Prop} {X : Nat → zm → Prop} (hd : Nat.ble 6 (d + 1) = true) (a1 : Int32) (b2 : Int64) (a4 : Int32)
    (H : zGo d m_X4_isBackAt 0 [.ref 1025, .int (yI w 1007 6)] [] (yz w) (zKi fun v2 w1 => ((v2 = 0 → zGo (d + 1) m_X8_run 55 [.ref 1000, .int a1, .long b2, zJ, .int (a4 + 1)] [] (yz w1) (zXi F X)) ∧ (¬ v2 = 0 → zGo d m_X8_endRecording 0 [.ref 1000, zJ] [] (yz w1) (zKv fun w3 => zGo (d + 1) m_X8_run 55 [.ref 1000, .int a1, .long b2, zJ, .int (a4 + 1)] [] (yz w3) (zXi F X)))))) :
    zGo (d + 1) m_X8_run 107 [.ref 1000, .int a1, .long b2, zJ, .int a4] [] (yz w) (zXi F X) := by
  refine g_s (pc' := 108) rfl ?_
  refine g_getf (pc' := 111) (v := .ref 1025) rfl rfl rfl rfl rfl ?_
  refine g_s (pc' := 112) rfl ?_
  refine g_getf (pc' := 115) (v := .ref 1007) rfl rfl rfl rfl rfl ?_
  refine g_getf (pc' := 118) (v := .int (yI w 1007 6)) rfl rfl rfl rfl rfl ?_
  refine g_calli (a := m_X4_isBackAt) (as := [.ref 1025, .int (yI w 1007 6)]) (rest := []) (ls0 := [.ref 1025, .int (yI w 1007 6)]) (pc' := 121) (t_virt rfl rfl rfl rfl rfl rfl) rfl rfl rfl ?_
  refine zGo.mono H (zKi_mono ?_)
  intro v2 w1 H
  refine g_ifeq (pc' := 124) rfl rfl (fun hc => ?_) (fun hc => ?_)
  · replace H := H.1 hc
    refine g_inc (pc' := 131) (ls' := [.ref 1000, .int a1, .long b2, zJ, .int (a4 + 1)]) rfl rfl rfl kc_i1 (zst1_of rfl (Or.inr rfl) rfl) ?_
    refine g_s (pc' := 55) rfl ?_
    exact H
  · replace H := H.2 hc
    refine g_s (pc' := 125) rfl ?_
    refine g_callv (a := m_X8_endRecording) (as := [.ref 1000]) (rest := []) (ls0 := [.ref 1000, zJ]) (pc' := 128) (t_virt rfl rfl rfl rfl rfl rfl) rfl rfl rfl ?_
    refine zGo.mono H (zKv_mono ?_)
    intro w3 H
    refine g_inc (pc' := 131) (ls' := [.ref 1000, .int a1, .long b2, zJ, .int (a4 + 1)]) rfl rfl rfl kc_i1 (zst1_of rfl (Or.inr rfl) rfl) ?_
    refine g_s (pc' := 55) rfl ?_
    exact H
set_option maxHeartbeats 4000000 in
theorem B_X8_setLocal_0 {d : Nat} {w : zm} {F : Int32 → zm → Prop} {X : Nat → zm → Prop} (hd : Nat.ble 6 d = true) (a1 : Int32) (a2 : Int32)
    (H : ((a1 < 0 → X 0 (yuX w )) ∧ (¬ a1 < 0 → ((a1 < (16 : Int32) → (((yI w 1007 5) = 0 → X 1 (yuX w )) ∧ (¬ (yI w 1007 5) = 0 → (((yI w 1007 5) = (2 : Int32) → X 1 (yuX w )) ∧ (¬ (yI w 1007 5) = (2 : Int32) → (zin a1 16) ∧ (zin a1 16) ∧ F (yA w 1008 (Int32.toNatClampNeg a1)) (yuA w 1008 (Int32.toNatClampNeg a1) a2)))))) ∧ (¬ a1 < (16 : Int32) → X 0 (yuX w )))))) :
    zGo d m_X8_setLocal 0 [.ref 1000, .int a1, .int a2, zJ] [] (yz w) (zXi F X) := by
  refine g_s (pc' := 1) rfl ?_
  refine g_iflt (pc' := 4) rfl rfl (fun hc => ?_) (fun hc => ?_)
  · replace H := H.1 hc
    exact g_throw rfl hd rfl (fun E w h => Or.inr ⟨E, w, rfl, rfl, h⟩) H
  · replace H := H.2 hc
    refine g_s (pc' := 5) rfl ?_
    refine g_psh (pc' := 7) (v' := .int 16) rfl (congrArg Value.int kc_b16) ?_
    refine g_iclt (pc' := 10) rfl rfl (fun hc => ?_) (fun hc => ?_)
    · replace H := H.1 hc
      refine g_s (pc' := 21) rfl ?_
      refine g_getf (pc' := 24) (v := .ref 1007) rfl rfl rfl rfl rfl ?_
      refine g_getf (pc' := 27) (v := .int (yI w 1007 5)) rfl rfl rfl rfl rfl ?_
      refine g_ifeq (pc' := 30) rfl rfl (fun hc => ?_) (fun hc => ?_)
      · replace H := H.1 hc
        exact g_throw rfl hd rfl (fun E w h => Or.inr ⟨E, w, rfl, rfl, h⟩) H
      · replace H := H.2 hc
        refine g_s (pc' := 31) rfl ?_
        refine g_getf (pc' := 34) (v := .ref 1007) rfl rfl rfl rfl rfl ?_
        refine g_getf (pc' := 37) (v := .int (yI w 1007 5)) rfl rfl rfl rfl rfl ?_
        refine g_psh (pc' := 38) (v' := .int 2) rfl (congrArg Value.int kc_i2) ?_
        refine g_icne (pc' := 41) rfl rfl (fun hc => ?_) (fun hc => ?_)
        · replace H := H.1 hc
          exact g_throw rfl hd rfl (fun E w h => Or.inr ⟨E, w, rfl, rfl, h⟩) H
        · replace H := H.2 hc
          refine g_s (pc' := 52) rfl ?_
          refine g_getf (pc' := 55) (v := .ref 1007) rfl rfl rfl rfl rfl ?_
          refine g_getf (pc' := 58) (v := .ref 1008) rfl rfl rfl rfl rfl ?_
          refine g_s (pc' := 59) rfl ?_
          obtain ⟨hi1, H⟩ := H
          refine g_iald (pc' := 60) rfl rfl rfl rfl rfl (Or.inl rfl) hi1 ?_
          refine g_ist (k := 3) (pc' := 61) (ls' := [.ref 1000, .int a1, .int a2, .int (yA w 1008 (Int32.toNatClampNeg a1))]) rfl rfl rfl rfl (zst1_of rfl (Or.inr rfl) rfl) ?_
          refine g_s (pc' := 62) rfl ?_
          refine g_getf (pc' := 65) (v := .ref 1007) rfl rfl rfl rfl rfl ?_
          refine g_getf (pc' := 68) (v := .ref 1008) rfl rfl rfl rfl rfl ?_
          refine g_s (pc' := 69) rfl ?_
          refine g_s (pc' := 70) rfl ?_
          obtain ⟨hi2, H⟩ := H
          refine g_iast (pc' := 71) rfl rfl rfl rfl rfl rfl hi2 ?_
          refine g_s (pc' := 72) rfl ?_
          exact g_xreti rfl rfl H
    · replace H := H.2 hc
      exact g_throw rfl hd rfl (fun E w h => Or.inr ⟨E, w, rfl, rfl, h⟩) H
set_option maxHeartbeats 4000000 in
theorem B_X8_stack_0 {d : Nat} {w : zm} {F : Int32 → zm → Prop} {X : Nat → zm → Prop} (hd : Nat.ble 6 d = true) (a1 : Int32)
    (H : ((a1 < 0 → X 0 (yuX w )) ∧ (¬ a1 < 0 → ((a1 < (yI w 1009 1) → ((a1 < (16 : Int32) → (zin a1 16) ∧ F (yA w 1010 (Int32.toNatClampNeg a1)) w) ∧ (¬ a1 < (16 : Int32) → X 0 (yuX w )))) ∧ (¬ a1 < (yI w 1009 1) → X 0 (yuX w )))))) :
    zGo d m_X8_stack 0 [.ref 1000, .int a1] [] (yz w) (zXi F X) := by
  refine g_s (pc' := 1) rfl ?_
  refine g_iflt (pc' := 4) rfl rfl (fun hc => ?_) (fun hc => ?_)
  · replace H := H.1 hc
    exact g_throw rfl hd rfl (fun E w h => Or.inr ⟨E, w, rfl, rfl, h⟩) H
  · replace H := H.2 hc
    refine g_s (pc' := 5) rfl ?_
    refine g_s (pc' := 6) rfl ?_
    refine g_getf (pc' := 9) (v := .ref 1007) rfl rfl rfl rfl rfl ?_
    refine g_getf (pc' := 12) (v := .ref 1009) rfl rfl rfl rfl rfl ?_
    refine g_getf (pc' := 15) (v := .int (yI w 1009 1)) rfl rfl rfl rfl rfl ?_
    refine g_icge (pc' := 18) rfl rfl (fun hc => ?_) (fun hc => ?_)
    · replace H := H.1 hc
      refine g_s (pc' := 19) rfl ?_
      refine g_psh (pc' := 21) (v' := .int 16) rfl (congrArg Value.int kc_b16) ?_
      refine g_iclt (pc' := 24) rfl rfl (fun hc => ?_) (fun hc => ?_)
      · replace H := H.1 hc
        refine g_s (pc' := 35) rfl ?_
        refine g_getf (pc' := 38) (v := .ref 1007) rfl rfl rfl rfl rfl ?_
        refine g_getf (pc' := 41) (v := .ref 1009) rfl rfl rfl rfl rfl ?_
        refine g_getf (pc' := 44) (v := .ref 1010) rfl rfl rfl rfl rfl ?_
        refine g_s (pc' := 45) rfl ?_
        obtain ⟨hi1, H⟩ := H
        refine g_iald (pc' := 46) rfl rfl rfl rfl rfl (Or.inl rfl) hi1 ?_
        exact g_xreti rfl rfl H
      · replace H := H.2 hc
        exact g_throw rfl hd rfl (fun E w h => Or.inr ⟨E, w, rfl, rfl, h⟩) H
    · replace H := H.2 hc
      exact g_throw rfl hd rfl (fun E w h => Or.inr ⟨E, w, rfl, rfl, h⟩) H
set_option maxHeartbeats 4000000 in
theorem B_X8_start_0 {d : Nat} {w : zm} {F : zm → Prop} {X : Nat → zm → Prop} (hd : Nat.ble 6 (d + 1) = true) 
    (H : (((yI w 1007 5) = 0 → X 1 (yuX w )) ∧ (¬ (yI w 1007 5) = 0 → zGo d m_X4_drop 0 [.ref 1025] [] (yz w) (zKv fun w1 => zGo d m_X1_toBeginning 0 [.ref 1007] [] (yz (yuL w1 1000 8 (0 : Int64))) (zKv fun w2 => F (yuI w2 1007 5 (2 : Int32))))))) :
    zGo (d + 1) m_X8_start 0 [.ref 1000] [] (yz w) (zXv F X) := by
  refine g_s (pc' := 1) rfl ?_
  refine g_getf (pc' := 4) (v := .ref 1007) rfl rfl rfl rfl rfl ?_
  refine g_getf (pc' := 7) (v := .int (yI w 1007 5)) rfl rfl rfl rfl rfl ?_
  refine g_ifne (pc' := 10) rfl rfl (fun hc => ?_) (fun hc => ?_)
  · replace H := H.1 hc
    exact g_throw rfl hd rfl (fun E w h => Or.inr ⟨E, w, rfl, rfl, h⟩) H
  · replace H := H.2 hc
    refine g_s (pc' := 21) rfl ?_
    refine g_getf (pc' := 24) (v := .ref 1025) rfl rfl rfl rfl rfl ?_
    refine g_callv (a := m_X4_drop) (as := [.ref 1025]) (rest := []) (ls0 := [.ref 1025]) (pc' := 27) (t_virt rfl rfl rfl rfl rfl rfl) rfl rfl rfl ?_
    refine zGo.mono H (zKv_mono ?_)
    intro w1 H
    refine g_s (pc' := 28) rfl ?_
    refine g_psh (pc' := 29) (v' := .long 0) rfl (congrArg Value.long kc_l0) ?_
    refine g_putL (pc' := 32) rfl rfl rfl rfl rfl rfl (fun _ => rfl) ?_
    refine g_s (pc' := 33) rfl ?_
    refine g_getf (pc' := 36) (v := .ref 1007) rfl rfl rfl rfl rfl ?_
    refine g_callv (a := m_X1_toBeginning) (as := [.ref 1007]) (rest := []) (ls0 := [.ref 1007]) (pc' := 39) (t_virt rfl rfl rfl rfl rfl rfl) rfl rfl rfl ?_
    refine zGo.mono H (zKv_mono ?_)
    intro w2 H
    refine g_s (pc' := 40) rfl ?_
    refine g_getf (pc' := 43) (v := .ref 1007) rfl rfl rfl rfl rfl ?_
    refine g_psh (pc' := 44) (v' := .int 2) rfl (congrArg Value.int kc_i2) ?_
    refine g_putI (pc' := 47) rfl rfl rfl rfl rfl rfl (fun _ => rfl) ?_
    exact g_xretv rfl rfl H
set_option maxHeartbeats 4000000 in
theorem B_X8_state_0 {d : Nat} {w : zm} {F : Int32 → zm → Prop} 
    (H : F (yI w 1007 5) w) :
    zGo d m_X8_state 0 [.ref 1000] [] (yz w) (zKi F) := by
  refine g_s (pc' := 1) rfl ?_
  refine g_getf (pc' := 4) (v := .ref 1007) rfl rfl rfl rfl rfl ?_
  refine g_getf (pc' := 7) (v := .int (yI w 1007 5)) rfl rfl rfl rfl rfl ?_
  exact g_reti rfl rfl H
set_option maxHeartbeats 4000000 in
theorem B_X8_stepPlainly_0 {d : Nat} {w : zm} {F : zm → Prop} 
    (H : zGo d m_X1_wouldBreak 0 [.ref 1007, zJ] [] (yz w) (zKi fun v2 w1 => ((v2 = 0 → zGo d m_X3_top 0 [.ref 1009] [] (yz w1) (zKi fun v4 w3 => ((v4 = 0 → zGo (d + 1) m_X8_stepPlainly 59 [.ref 1000, .int (yI w 1007 6), zJ] [.int (1 : Int32)] (yz w3) (zKv F)) ∧ (¬ v4 = 0 → zGo (d + 1) m_X8_stepPlainly 59 [.ref 1000, .int (yI w 1007 6), zJ] [.int (0 : Int32)] (yz w3) (zKv F))))) ∧ (¬ v2 = 0 → zGo d m_X4_isOn 0 [.ref 1025] [] (yz (yuI w1 1007 5 (4 : Int32))) (zKi fun v6 w5 => ((v6 = 0 → F w5) ∧ (¬ v6 = 0 → zGo d m_X8_cutOff 0 [.ref 1000, zJ] [] (yz w5) (zKv fun w7 => F w7)))))))) :
    zGo (d + 1) m_X8_stepPlainly 0 [.ref 1000, zJ, zJ] [] (yz w) (zKv F) := by
  refine g_s (pc' := 1) rfl ?_
  refine g_getf (pc' := 4) (v := .ref 1007) rfl rfl rfl rfl rfl ?_
  refine g_getf (pc' := 7) (v := .int (yI w 1007 6)) rfl rfl rfl rfl rfl ?_
  refine g_ist (k := 1) (pc' := 8) (ls' := [.ref 1000, .int (yI w 1007 6), zJ]) rfl rfl rfl rfl (zst1_of rfl (Or.inr rfl) rfl) ?_
  refine g_s (pc' := 9) rfl ?_
  refine g_getf (pc' := 12) (v := .ref 1007) rfl rfl rfl rfl rfl ?_
  refine g_calli (a := m_X1_wouldBreak) (as := [.ref 1007]) (rest := []) (ls0 := [.ref 1007, zJ]) (pc' := 15) (t_virt rfl rfl rfl rfl rfl rfl) rfl rfl rfl ?_
  refine zGo.mono H (zKi_mono ?_)
  intro v2 w1 H
  refine g_ifeq (pc' := 18) rfl rfl (fun hc => ?_) (fun hc => ?_)
  · replace H := H.1 hc
    refine g_s (pc' := 42) rfl ?_
    refine g_getf (pc' := 45) (v := .ref 1007) rfl rfl rfl rfl rfl ?_
    refine g_getf (pc' := 48) (v := .ref 1009) rfl rfl rfl rfl rfl ?_
    refine g_calli (a := m_X3_top) (as := [.ref 1009]) (rest := []) (ls0 := [.ref 1009]) (pc' := 51) (t_virt rfl rfl rfl rfl rfl rfl) rfl rfl rfl ?_
    refine zGo.mono H (zKi_mono ?_)
    intro v4 w3 H
    refine g_ifne (pc' := 54) rfl rfl (fun hc => ?_) (fun hc => ?_)
    · replace H := H.1 hc
      refine g_psh (pc' := 55) (v' := .int 1) rfl (congrArg Value.int kc_i1) ?_
      refine g_s (pc' := 59) rfl ?_
      exact H
    · replace H := H.2 hc
      refine g_psh (pc' := 59) (v' := .int 0) rfl (congrArg Value.int kc_i0) ?_
      exact H
  · replace H := H.2 hc
    refine g_s (pc' := 19) rfl ?_
    refine g_getf (pc' := 22) (v := .ref 1007) rfl rfl rfl rfl rfl ?_
    refine g_psh (pc' := 23) (v' := .int 4) rfl (congrArg Value.int kc_i4) ?_
    refine g_putI (pc' := 26) rfl rfl rfl rfl rfl rfl (fun _ => rfl) ?_
    refine g_s (pc' := 27) rfl ?_
    refine g_getf (pc' := 30) (v := .ref 1025) rfl rfl rfl rfl rfl ?_
    refine g_calli (a := m_X4_isOn) (as := [.ref 1025]) (rest := []) (ls0 := [.ref 1025]) (pc' := 33) (t_virt rfl rfl rfl rfl rfl rfl) rfl rfl rfl ?_
    refine zGo.mono H (zKi_mono ?_)
    intro v6 w5 H
    refine g_ifeq (pc' := 36) rfl rfl (fun hc => ?_) (fun hc => ?_)
    · replace H := H.1 hc
      exact g_retv rfl rfl H
    · replace H := H.2 hc
      refine g_s (pc' := 37) rfl ?_
      refine g_callv (a := m_X8_cutOff) (as := [.ref 1000]) (rest := []) (ls0 := [.ref 1000, zJ]) (pc' := 40) (t_virt rfl rfl rfl rfl rfl rfl) rfl rfl rfl ?_
      refine zGo.mono H (zKv_mono ?_)
      intro w7 H
      exact g_retv rfl rfl H
set_option maxHeartbeats 4000000 in
theorem B_X8_stepPlainly_59 {d : Nat} {w : zm} {F : zm → Prop} (a1 : Int32) (s0 : Int32)
    (H : zGo d m_X1_step 0 [.ref 1007, zJ, zJ] [] (yz w) (zKv fun w1 => zGo d m_X4_isOn 0 [.ref 1025] [] (yz w1) (zKi fun v3 w2 => ((v3 = 0 → zGo (d + 1) m_X8_stepPlainly 89 [.ref 1000, .int a1, .int s0] [] (yz w2) (zKv F)) ∧ (¬ v3 = 0 → zGo d m_X2_add 0 [.ref 1026, .int a1, .int s0] [] (yz w2) (zKv fun w4 => zGo (d + 1) m_X8_stepPlainly 89 [.ref 1000, .int a1, .int s0] [] (yz w4) (zKv F))))))) :
    zGo (d + 1) m_X8_stepPlainly 59 [.ref 1000, .int a1, zJ] [.int s0] (yz w) (zKv F) := by
  refine g_ist (k := 2) (pc' := 60) (ls' := [.ref 1000, .int a1, .int s0]) rfl rfl rfl rfl (zst1_of rfl (Or.inr rfl) rfl) ?_
  refine g_s (pc' := 61) rfl ?_
  refine g_getf (pc' := 64) (v := .ref 1007) rfl rfl rfl rfl rfl ?_
  refine g_callv (a := m_X1_step) (as := [.ref 1007]) (rest := []) (ls0 := [.ref 1007, zJ, zJ]) (pc' := 67) (t_virt rfl rfl rfl rfl rfl rfl) rfl rfl rfl ?_
  refine zGo.mono H (zKv_mono ?_)
  intro w1 H
  refine g_s (pc' := 68) rfl ?_
  refine g_getf (pc' := 71) (v := .ref 1025) rfl rfl rfl rfl rfl ?_
  refine g_calli (a := m_X4_isOn) (as := [.ref 1025]) (rest := []) (ls0 := [.ref 1025]) (pc' := 74) (t_virt rfl rfl rfl rfl rfl rfl) rfl rfl rfl ?_
  refine zGo.mono H (zKi_mono ?_)
  intro v3 w2 H
  refine g_ifeq (pc' := 77) rfl rfl (fun hc => ?_) (fun hc => ?_)
  · replace H := H.1 hc
    exact H
  · replace H := H.2 hc
    refine g_s (pc' := 78) rfl ?_
    refine g_getf (pc' := 81) (v := .ref 1025) rfl rfl rfl rfl rfl ?_
    refine g_getf (pc' := 84) (v := .ref 1026) rfl rfl rfl rfl rfl ?_
    refine g_s (pc' := 85) rfl ?_
    refine g_s (pc' := 86) rfl ?_
    refine g_callv (a := m_X2_add) (as := [.ref 1026, .int a1, .int s0]) (rest := []) (ls0 := [.ref 1026, .int a1, .int s0]) (pc' := 89) (t_virt rfl rfl rfl rfl rfl rfl) rfl rfl rfl ?_
    refine zGo.mono H (zKv_mono ?_)
    intro w4 H
    exact H
set_option maxHeartbeats 4000000 in
theorem B_X8_stepPlainly_89 {d : Nat} {w : zm} {F : zm → Prop} (a1 : Int32) (a2 : Int32)
    (H : zGo d m_X0_op 0 [.ref 1003, .int a1] [] (yz w) (zKi fun v2 w1 => zGo d m_X8_isJump 0 [.int v2] [] (yz w1) (zKi fun v4 w3 => ((v4 = 0 → F w3) ∧ (¬ v4 = 0 → ((a1 < (yI w3 1007 6) → F w3) ∧ (¬ a1 < (yI w3 1007 6) → zGo d m_X8_warm 0 [.ref 1000, .int (yI w3 1007 6), zJ] [] (yz w3) (zKv fun w5 => F w5)))))))) :
    zGo (d + 1) m_X8_stepPlainly 89 [.ref 1000, .int a1, .int a2] [] (yz w) (zKv F) := by
  refine g_s (pc' := 90) rfl ?_
  refine g_getf (pc' := 93) (v := .ref 1003) rfl rfl rfl rfl rfl ?_
  refine g_s (pc' := 94) rfl ?_
  refine g_calli (a := m_X0_op) (as := [.ref 1003, .int a1]) (rest := []) (ls0 := [.ref 1003, .int a1]) (pc' := 97) (t_virt rfl rfl rfl rfl rfl rfl) rfl rfl rfl ?_
  refine zGo.mono H (zKi_mono ?_)
  intro v2 w1 H
  refine g_calli (a := m_X8_isJump) (as := [.int v2]) (rest := []) (ls0 := [.int v2]) (pc' := 100) (t_stat rfl (Or.inl rfl) rfl rfl rfl rfl) rfl rfl rfl ?_
  refine zGo.mono H (zKi_mono ?_)
  intro v4 w3 H
  refine g_ifeq (pc' := 103) rfl rfl (fun hc => ?_) (fun hc => ?_)
  · replace H := H.1 hc
    exact g_retv rfl rfl H
  · replace H := H.2 hc
    refine g_s (pc' := 104) rfl ?_
    refine g_getf (pc' := 107) (v := .ref 1007) rfl rfl rfl rfl rfl ?_
    refine g_getf (pc' := 110) (v := .int (yI w3 1007 6)) rfl rfl rfl rfl rfl ?_
    refine g_s (pc' := 111) rfl ?_
    refine g_icgt (pc' := 114) rfl rfl (fun hc => ?_) (fun hc => ?_)
    · replace H := H.1 hc
      exact g_retv rfl rfl H
    · replace H := H.2 hc
      refine g_s (pc' := 115) rfl ?_
      refine g_s (pc' := 116) rfl ?_
      refine g_getf (pc' := 119) (v := .ref 1007) rfl rfl rfl rfl rfl ?_
      refine g_getf (pc' := 122) (v := .int (yI w3 1007 6)) rfl rfl rfl rfl rfl ?_
      refine g_callv (a := m_X8_warm) (as := [.ref 1000, .int (yI w3 1007 6)]) (rest := []) (ls0 := [.ref 1000, .int (yI w3 1007 6), zJ]) (pc' := 125) (t_virt rfl rfl rfl rfl rfl rfl) rfl rfl rfl ?_
      refine zGo.mono H (zKv_mono ?_)
      intro w5 H
      exact g_retv rfl rfl H
set_option maxHeartbeats 4000000 in
theorem B_X8_steps_0 {d : Nat} {w : zm} {F : Int64 → zm → Prop} {X : Nat → zm → Prop} (hd : Nat.ble 6 d = true) (a1 : Int32)
    (H : (((a1.toInt < 0 ∨ 5 < a1.toInt) → X 0 (yuX w )) ∧ ((a1.toInt = 0) → F (yL w 1007 8) w) ∧ ((a1.toInt = 1) → F (yL w 1000 8) w) ∧ ((a1.toInt = 2) → F (yL w 1000 9) w) ∧ ((a1.toInt = 3) → F (yL w 1000 10) w) ∧ ((a1.toInt = 4) → F (yL w 1000 11) w) ∧ ((a1.toInt = 5) → F (yL w 1000 12) w))) :
    zGo d m_X8_steps 0 [.ref 1000, .int a1] [] (yz w) (zXl F X) := by
  refine g_s (pc' := 1) rfl ?_
  refine g_tsw rfl (fun hx => ?_) (fun j hx hy => ?_)
  · replace H := H.1 (by omega)
    show zGo d m_X8_steps 73 [.ref 1000, .int a1] [] (yz w) (zXl F X)
    exact g_throw rfl hd rfl (fun E w h => Or.inr ⟨E, w, rfl, rfl, h⟩) H
  · have hj : j < 6 := by omega
    match j, hj, hx with
    | 0, _, hx =>
      refine ⟨39, rfl, ?_⟩
      replace H := H.2.1 (by omega)
      show zGo d m_X8_steps 40 [.ref 1000, .int a1] [] (yz w) (zXl F X)
      refine g_s (pc' := 41) rfl ?_
      refine g_getf (pc' := 44) (v := .ref 1007) rfl rfl rfl rfl rfl ?_
      refine g_getf (pc' := 47) (v := .long (yL w 1007 8)) rfl rfl rfl rfl rfl ?_
      exact g_xretl rfl rfl H
    | 1, _, hx =>
      refine ⟨47, rfl, ?_⟩
      replace H := H.2.2.1 (by omega)
      show zGo d m_X8_steps 48 [.ref 1000, .int a1] [] (yz w) (zXl F X)
      refine g_s (pc' := 49) rfl ?_
      refine g_getf (pc' := 52) (v := .long (yL w 1000 8)) rfl rfl rfl rfl rfl ?_
      exact g_xretl rfl rfl H
    | 2, _, hx =>
      refine ⟨52, rfl, ?_⟩
      replace H := H.2.2.2.1 (by omega)
      show zGo d m_X8_steps 53 [.ref 1000, .int a1] [] (yz w) (zXl F X)
      refine g_s (pc' := 54) rfl ?_
      refine g_getf (pc' := 57) (v := .long (yL w 1000 9)) rfl rfl rfl rfl rfl ?_
      exact g_xretl rfl rfl H
    | 3, _, hx =>
      refine ⟨57, rfl, ?_⟩
      replace H := H.2.2.2.2.1 (by omega)
      show zGo d m_X8_steps 58 [.ref 1000, .int a1] [] (yz w) (zXl F X)
      refine g_s (pc' := 59) rfl ?_
      refine g_getf (pc' := 62) (v := .long (yL w 1000 10)) rfl rfl rfl rfl rfl ?_
      exact g_xretl rfl rfl H
    | 4, _, hx =>
      refine ⟨62, rfl, ?_⟩
      replace H := H.2.2.2.2.2.1 (by omega)
      show zGo d m_X8_steps 63 [.ref 1000, .int a1] [] (yz w) (zXl F X)
      refine g_s (pc' := 64) rfl ?_
      refine g_getf (pc' := 67) (v := .long (yL w 1000 11)) rfl rfl rfl rfl rfl ?_
      exact g_xretl rfl rfl H
    | 5, _, hx =>
      refine ⟨67, rfl, ?_⟩
      replace H := H.2.2.2.2.2.2 (by omega)
      show zGo d m_X8_steps 68 [.ref 1000, .int a1] [] (yz w) (zXl F X)
      refine g_s (pc' := 69) rfl ?_
      refine g_getf (pc' := 72) (v := .long (yL w 1000 12)) rfl rfl rfl rfl rfl ?_
      exact g_xretl rfl rfl H
    | _ + 6, hj, _ => exact absurd hj (by omega)
set_option maxHeartbeats 4000000 in
theorem B_X8_trace_0 {d : Nat} {w : zm} {F : Int32 → zm → Prop} {X : Nat → zm → Prop} (hd : Nat.ble 6 (d + 1) = true) (a1 : Int32) (a2 : Int32)
    (H : zGo d m_X6_find 0 [.ref 1022, .int a1] [] (yz w) (zKr fun o2 w1 => ((o2 = none → X 0 (yuX w1 )) ∧ (∀ q3, o2 = some q3 → (((a2.toInt < 0 ∨ 6 < a2.toInt) → X 0 (yuX w1 )) ∧ ((a2.toInt = 0) → (yT w1 q3) ∧ F (yI w1 (q3 + 1) 4) w1) ∧ ((a2.toInt = 1) → (yT w1 q3) ∧ F (yI w1 (q3 + 1) 6) w1) ∧ ((a2.toInt = 2) → (yT w1 q3) ∧ F (yI w1 (q3 + 1) 7) w1) ∧ ((a2.toInt = 3) → (yT w1 q3) ∧ F (yI w1 (q3 + 1) 8) w1) ∧ ((a2.toInt = 4) → (yT w1 q3) ∧ F (yI w1 q3 7) w1) ∧ ((a2.toInt = 5) → (yT w1 q3) ∧ F (yI w1 q3 8) w1) ∧ ((a2.toInt = 6) → (yT w1 q3) ∧ F (yI w1 q3 6) w1)))))) :
    zGo (d + 1) m_X8_trace 0 [.ref 1000, .int a1, .int a2, zJ] [] (yz w) (zXi F X) := by
  refine g_s (pc' := 1) rfl ?_
  refine g_getf (pc' := 4) (v := .ref 1022) rfl rfl rfl rfl rfl ?_
  refine g_s (pc' := 5) rfl ?_
  refine g_callr (a := m_X6_find) (as := [.ref 1022, .int a1]) (rest := []) (ls0 := [.ref 1022, .int a1]) (pc' := 8) (t_virt rfl rfl rfl rfl rfl rfl) rfl rfl rfl ?_
  refine zGo.mono H (zKr_mono ?_)
  intro o2 w1 H
  refine g_ast (k := 3) (pc' := 9) (o := o2) (ls' := [.ref 1000, .int a1, .int a2, va_rf o2]) rfl rfl rfl rfl (zst1_of rfl (Or.inr rfl) rfl) ?_
  refine g_aldo (k := 3) (pc' := 10) (o := o2) rfl rfl rfl rfl rfl ?_
  cases o2 with
  | none =>
    refine g_ifnonnull (pc' := 13) (o := none) rfl rfl (fun _ => ?_) (fun q h9 => by cases h9)
    replace H := H.1 rfl
    exact g_throw rfl hd rfl (fun E w h => Or.inr ⟨E, w, rfl, rfl, h⟩) H
  | some q3 =>
    refine g_ifnonnull (pc' := 13) (o := some q3) rfl rfl (fun h9 => by cases h9) (fun _ _ => ?_)
    replace H := H.2 q3 rfl
    refine g_s (pc' := 24) rfl ?_
    refine g_tsw rfl (fun hx => ?_) (fun j hx hy => ?_)
    · replace H := H.1 (by omega)
      show zGo (d + 1) m_X8_trace 115 [.ref 1000, .int a1, .int a2, .ref q3] [] (yz w1) (zXi F X)
      exact g_throw rfl hd rfl (fun E w h => Or.inr ⟨E, w, rfl, rfl, h⟩) H
    · have hj : j < 7 := by omega
      match j, hj, hx with
      | 0, _, hx =>
        refine ⟨44, rfl, ?_⟩
        replace H := H.2.1 (by omega)
        show zGo (d + 1) m_X8_trace 68 [.ref 1000, .int a1, .int a2, .ref q3] [] (yz w1) (zXi F X)
        refine g_s (pc' := 69) rfl ?_
        obtain ⟨hs4, H⟩ := H
        refine g_getf (pc' := 72) (v := .ref (q3 + 1)) rfl rfl (yT_k hs4) rfl (congrArg va_rf (yT_r0 hs4)) ?_
        refine g_getf (pc' := 75) (v := .int (yI w1 (q3 + 1) 4)) rfl rfl (yP_k (yT_P hs4)) rfl rfl ?_
        exact g_xreti rfl rfl H
      | 1, _, hx =>
        refine ⟨52, rfl, ?_⟩
        replace H := H.2.2.1 (by omega)
        show zGo (d + 1) m_X8_trace 76 [.ref 1000, .int a1, .int a2, .ref q3] [] (yz w1) (zXi F X)
        refine g_s (pc' := 77) rfl ?_
        obtain ⟨hs5, H⟩ := H
        refine g_getf (pc' := 80) (v := .ref (q3 + 1)) rfl rfl (yT_k hs5) rfl (congrArg va_rf (yT_r0 hs5)) ?_
        refine g_getf (pc' := 83) (v := .int (yI w1 (q3 + 1) 6)) rfl rfl (yP_k (yT_P hs5)) rfl rfl ?_
        exact g_xreti rfl rfl H
      | 2, _, hx =>
        refine ⟨60, rfl, ?_⟩
        replace H := H.2.2.2.1 (by omega)
        show zGo (d + 1) m_X8_trace 84 [.ref 1000, .int a1, .int a2, .ref q3] [] (yz w1) (zXi F X)
        refine g_s (pc' := 85) rfl ?_
        obtain ⟨hs6, H⟩ := H
        refine g_getf (pc' := 88) (v := .ref (q3 + 1)) rfl rfl (yT_k hs6) rfl (congrArg va_rf (yT_r0 hs6)) ?_
        refine g_getf (pc' := 91) (v := .int (yI w1 (q3 + 1) 7)) rfl rfl (yP_k (yT_P hs6)) rfl rfl ?_
        exact g_xreti rfl rfl H
      | 3, _, hx =>
        refine ⟨68, rfl, ?_⟩
        replace H := H.2.2.2.2.1 (by omega)
        show zGo (d + 1) m_X8_trace 92 [.ref 1000, .int a1, .int a2, .ref q3] [] (yz w1) (zXi F X)
        refine g_s (pc' := 93) rfl ?_
        obtain ⟨hs7, H⟩ := H
        refine g_getf (pc' := 96) (v := .ref (q3 + 1)) rfl rfl (yT_k hs7) rfl (congrArg va_rf (yT_r0 hs7)) ?_
        refine g_getf (pc' := 99) (v := .int (yI w1 (q3 + 1) 8)) rfl rfl (yP_k (yT_P hs7)) rfl rfl ?_
        exact g_xreti rfl rfl H
      | 4, _, hx =>
        refine ⟨76, rfl, ?_⟩
        replace H := H.2.2.2.2.2.1 (by omega)
        show zGo (d + 1) m_X8_trace 100 [.ref 1000, .int a1, .int a2, .ref q3] [] (yz w1) (zXi F X)
        refine g_s (pc' := 101) rfl ?_
        obtain ⟨hs8, H⟩ := H
        refine g_getf (pc' := 104) (v := .int (yI w1 q3 7)) rfl rfl (yT_k hs8) rfl rfl ?_
        exact g_xreti rfl rfl H
      | 5, _, hx =>
        refine ⟨81, rfl, ?_⟩
        replace H := H.2.2.2.2.2.2.1 (by omega)
        show zGo (d + 1) m_X8_trace 105 [.ref 1000, .int a1, .int a2, .ref q3] [] (yz w1) (zXi F X)
        refine g_s (pc' := 106) rfl ?_
        obtain ⟨hs9, H⟩ := H
        refine g_getf (pc' := 109) (v := .int (yI w1 q3 8)) rfl rfl (yT_k hs9) rfl rfl ?_
        exact g_xreti rfl rfl H
      | 6, _, hx =>
        refine ⟨86, rfl, ?_⟩
        replace H := H.2.2.2.2.2.2.2 (by omega)
        show zGo (d + 1) m_X8_trace 110 [.ref 1000, .int a1, .int a2, .ref q3] [] (yz w1) (zXi F X)
        refine g_s (pc' := 111) rfl ?_
        obtain ⟨hs10, H⟩ := H
        refine g_getf (pc' := 114) (v := .int (yI w1 q3 6)) rfl rfl (yT_k hs10) rfl rfl ?_
        exact g_xreti rfl rfl H
      | _ + 7, hj, _ => exact absurd hj (by omega)
set_option maxHeartbeats 4000000 in
theorem B_X8_traceAt_0 {d : Nat} {w : zm} {F : Int32 → zm → Prop} {X : Nat → zm → Prop} (hd : Nat.ble 6 (d + 1) = true) (a1 : Int32)
    (H : zGo d m_X6_addressOf 0 [.ref 1022, .int a1, zJ, zJ] [] (yz w) (zKi fun v2 w1 => ((v2 = (-1 : Int32) → X 0 (yuX w1 )) ∧ (¬ v2 = (-1 : Int32) → F v2 w1)))) :
    zGo (d + 1) m_X8_traceAt 0 [.ref 1000, .int a1, zJ] [] (yz w) (zXi F X) := by
  refine g_s (pc' := 1) rfl ?_
  refine g_getf (pc' := 4) (v := .ref 1022) rfl rfl rfl rfl rfl ?_
  refine g_s (pc' := 5) rfl ?_
  refine g_calli (a := m_X6_addressOf) (as := [.ref 1022, .int a1]) (rest := []) (ls0 := [.ref 1022, .int a1, zJ, zJ]) (pc' := 8) (t_virt rfl rfl rfl rfl rfl rfl) rfl rfl rfl ?_
  refine zGo.mono H (zKi_mono ?_)
  intro v2 w1 H
  refine g_ist (k := 2) (pc' := 9) (ls' := [.ref 1000, .int a1, .int v2]) rfl rfl rfl rfl (zst1_of rfl (Or.inr rfl) rfl) ?_
  refine g_s (pc' := 10) rfl ?_
  refine g_psh (pc' := 11) (v' := .int (-1)) rfl (congrArg Value.int kc_im1) ?_
  refine g_icne (pc' := 14) rfl rfl (fun hc => ?_) (fun hc => ?_)
  · replace H := H.1 hc
    exact g_throw rfl hd rfl (fun E w h => Or.inr ⟨E, w, rfl, rfl, h⟩) H
  · replace H := H.2 hc
    refine g_s (pc' := 25) rfl ?_
    exact g_xreti rfl rfl H
set_option maxHeartbeats 4000000 in
theorem B_X8_traces_0 {d : Nat} {w : zm} {F : Int32 → zm → Prop} 
    (H : F (yI w 1022 3) w) :
    zGo d m_X8_traces 0 [.ref 1000] [] (yz w) (zKi F) := by
  refine g_s (pc' := 1) rfl ?_
  refine g_getf (pc' := 4) (v := .ref 1022) rfl rfl rfl rfl rfl ?_
  refine g_getf (pc' := 7) (v := .int (yI w 1022 3)) rfl rfl rfl rfl rfl ?_
  exact g_reti rfl rfl H
set_option maxHeartbeats 4000000 in
theorem B_X8_verify_0 {d : Nat} {w : zm} {F : Int32 → zm → Prop} 
    (H : zGo d m_X0_findFault 0 [.ref 1003, zJ] [] (yz w) (zKi fun v2 w1 => ((v2 = 0 → (((yI w1 1007 5) = 0 → F v2 (yuI w1 1007 5 (1 : Int32))) ∧ (¬ (yI w1 1007 5) = 0 → F v2 w1))) ∧ (¬ v2 = 0 → F v2 w1)))) :
    zGo (d + 1) m_X8_verify 0 [.ref 1000, zJ] [] (yz w) (zKi F) := by
  refine g_s (pc' := 1) rfl ?_
  refine g_getf (pc' := 4) (v := .ref 1003) rfl rfl rfl rfl rfl ?_
  refine g_calli (a := m_X0_findFault) (as := [.ref 1003]) (rest := []) (ls0 := [.ref 1003, zJ]) (pc' := 7) (t_virt rfl rfl rfl rfl rfl rfl) rfl rfl rfl ?_
  refine zGo.mono H (zKi_mono ?_)
  intro v2 w1 H
  refine g_ist (k := 1) (pc' := 8) (ls' := [.ref 1000, .int v2]) rfl rfl rfl rfl (zst1_of rfl (Or.inr rfl) rfl) ?_
  refine g_s (pc' := 9) rfl ?_
  refine g_ifne (pc' := 12) rfl rfl (fun hc => ?_) (fun hc => ?_)
  · replace H := H.1 hc
    refine g_s (pc' := 13) rfl ?_
    refine g_getf (pc' := 16) (v := .ref 1007) rfl rfl rfl rfl rfl ?_
    refine g_getf (pc' := 19) (v := .int (yI w1 1007 5)) rfl rfl rfl rfl rfl ?_
    refine g_ifne (pc' := 22) rfl rfl (fun hc => ?_) (fun hc => ?_)
    · replace H := H.1 hc
      refine g_s (pc' := 23) rfl ?_
      refine g_getf (pc' := 26) (v := .ref 1007) rfl rfl rfl rfl rfl ?_
      refine g_psh (pc' := 27) (v' := .int 1) rfl (congrArg Value.int kc_i1) ?_
      refine g_putI (pc' := 30) rfl rfl rfl rfl rfl rfl (fun _ => rfl) ?_
      refine g_s (pc' := 31) rfl ?_
      exact g_reti rfl rfl H
    · replace H := H.2 hc
      refine g_s (pc' := 31) rfl ?_
      exact g_reti rfl rfl H
  · replace H := H.2 hc
    refine g_s (pc' := 31) rfl ?_
    exact g_reti rfl rfl H
set_option maxHeartbeats 4000000 in
theorem B_X8_warm_0 {d : Nat} {w : zm} {F : zm → Prop} (a1 : Int32)
    (H : zGo d m_X0_holds 0 [.ref 1003, .int a1] [] (yz w) (zKi fun v2 w1 => ((v2 = 0 → F w1) ∧ (¬ v2 = 0 → (zin a1 200) ∧ (zin a1 200) ∧ (zin a1 200) ∧ (((yA w1 1002 (Int32.toNatClampNeg a1)) < (3 : Int32) → zGo (d + 1) m_X8_warm 37 [.ref 1000, .int a1, zJ] [.int (0 : Int32)] (yz (yuA w1 1001 (Int32.toNatClampNeg a1) ((yA w1 1001 (Int32.toNatClampNeg a1)) + (1 : Int32)))) (zKv F)) ∧ (¬ (yA w1 1002 (Int32.toNatClampNeg a1)) < (3 : Int32) → zGo (d + 1) m_X8_warm 37 [.ref 1000, .int a1, zJ] [.int (1 : Int32)] (yz (yuA w1 1001 (Int32.toNatClampNeg a1) ((yA w1 1001 (Int32.toNatClampNeg a1)) + (1 : Int32)))) (zKv F))))))) :
    zGo (d + 1) m_X8_warm 0 [.ref 1000, .int a1, zJ] [] (yz w) (zKv F) := by
  refine g_s (pc' := 1) rfl ?_
  refine g_getf (pc' := 4) (v := .ref 1003) rfl rfl rfl rfl rfl ?_
  refine g_s (pc' := 5) rfl ?_
  refine g_calli (a := m_X0_holds) (as := [.ref 1003, .int a1]) (rest := []) (ls0 := [.ref 1003, .int a1]) (pc' := 8) (t_virt rfl rfl rfl rfl rfl rfl) rfl rfl rfl ?_
  refine zGo.mono H (zKi_mono ?_)
  intro v2 w1 H
  refine g_ifne (pc' := 11) rfl rfl (fun hc => ?_) (fun hc => ?_)
  · replace H := H.1 hc
    exact g_retv rfl rfl H
  · replace H := H.2 hc
    refine g_s (pc' := 13) rfl ?_
    refine g_getf (pc' := 16) (v := .ref 1001) rfl rfl rfl rfl rfl ?_
    refine g_s (pc' := 17) rfl ?_
    refine g_s (pc' := 18) rfl ?_
    obtain ⟨hi3, H⟩ := H
    refine g_iald (pc' := 19) rfl rfl rfl rfl rfl (Or.inl rfl) hi3 ?_
    refine g_psh (pc' := 20) (v' := .int 1) rfl (congrArg Value.int kc_i1) ?_
    refine g_s (pc' := 21) (st' := [.int ((yA w1 1001 (Int32.toNatClampNeg a1)) + (1 : Int32)), .int a1, .ref 1001]) rfl ?_
    obtain ⟨hi4, H⟩ := H
    refine g_iast (pc' := 22) rfl rfl rfl rfl rfl rfl hi4 ?_
    refine g_s (pc' := 23) rfl ?_
    refine g_getf (pc' := 26) (v := .ref 1002) rfl rfl rfl rfl rfl ?_
    refine g_s (pc' := 27) rfl ?_
    obtain ⟨hi5, H⟩ := H
    refine g_iald (pc' := 28) rfl rfl rfl rfl rfl (Or.inl rfl) hi5 ?_
    refine g_psh (pc' := 29) (v' := .int 3) rfl (congrArg Value.int kc_i3) ?_
    refine g_iclt (pc' := 32) rfl rfl (fun hc => ?_) (fun hc => ?_)
    · replace H := H.1 hc
      refine g_psh (pc' := 37) (v' := .int 0) rfl (congrArg Value.int kc_i0) ?_
      exact H
    · replace H := H.2 hc
      refine g_psh (pc' := 33) (v' := .int 1) rfl (congrArg Value.int kc_i1) ?_
      refine g_s (pc' := 37) rfl ?_
      exact H
set_option maxHeartbeats 4000000 in
theorem B_X8_warm_37 {d : Nat} {w : zm} {F : zm → Prop} (a1 : Int32) (s0 : Int32)
    (H : (zin a1 200) ∧ (((yA w 1001 (Int32.toNatClampNeg a1)) < (yI w 1000 0) → F w) ∧ (¬ (yA w 1001 (Int32.toNatClampNeg a1)) < (yI w 1000 0) → zGo d m_X4_isOn 0 [.ref 1025] [] (yz w) (zKi fun v3 w2 => ((v3 = 0 → zGo d m_X6_find 0 [.ref 1022, .int a1] [] (yz w2) (zKr fun o5 w4 => ((o5 = none → ((s0 = 0 → (((yI w4 1022 3) < (16 : Int32) → zGo d m_X8_beginRecording 0 [.ref 1000, .int a1, .int (-1 : Int32)] [] (yz w4) (zKv fun w7 => F w7)) ∧ (¬ (yI w4 1022 3) < (16 : Int32) → F w4))) ∧ (¬ s0 = 0 → F w4))) ∧ (∀ q6, o5 = some q6 → F w4)))) ∧ (¬ v3 = 0 → F w2)))))) :
    zGo (d + 1) m_X8_warm 37 [.ref 1000, .int a1, zJ] [.int s0] (yz w) (zKv F) := by
  refine g_ist (k := 2) (pc' := 38) (ls' := [.ref 1000, .int a1, .int s0]) rfl rfl rfl rfl (zst1_of rfl (Or.inr rfl) rfl) ?_
  refine g_s (pc' := 39) rfl ?_
  refine g_getf (pc' := 42) (v := .ref 1001) rfl rfl rfl rfl rfl ?_
  refine g_s (pc' := 43) rfl ?_
  obtain ⟨hi1, H⟩ := H
  refine g_iald (pc' := 44) rfl rfl rfl rfl rfl (Or.inl rfl) hi1 ?_
  refine g_s (pc' := 45) rfl ?_
  refine g_getf (pc' := 48) (v := .int (yI w 1000 0)) rfl rfl rfl rfl rfl ?_
  refine g_iclt (pc' := 51) rfl rfl (fun hc => ?_) (fun hc => ?_)
  · replace H := H.1 hc
    exact g_retv rfl rfl H
  · replace H := H.2 hc
    refine g_s (pc' := 52) rfl ?_
    refine g_getf (pc' := 55) (v := .ref 1025) rfl rfl rfl rfl rfl ?_
    refine g_calli (a := m_X4_isOn) (as := [.ref 1025]) (rest := []) (ls0 := [.ref 1025]) (pc' := 58) (t_virt rfl rfl rfl rfl rfl rfl) rfl rfl rfl ?_
    refine zGo.mono H (zKi_mono ?_)
    intro v3 w2 H
    refine g_ifne (pc' := 61) rfl rfl (fun hc => ?_) (fun hc => ?_)
    · replace H := H.1 hc
      refine g_s (pc' := 62) rfl ?_
      refine g_getf (pc' := 65) (v := .ref 1022) rfl rfl rfl rfl rfl ?_
      refine g_s (pc' := 66) rfl ?_
      refine g_callr (a := m_X6_find) (as := [.ref 1022, .int a1]) (rest := []) (ls0 := [.ref 1022, .int a1]) (pc' := 69) (t_virt rfl rfl rfl rfl rfl rfl) rfl rfl rfl ?_
      refine zGo.mono H (zKr_mono ?_)
      intro o5 w4 H
      cases o5 with
      | none =>
        refine g_ifnonnull (pc' := 72) (o := none) rfl rfl (fun _ => ?_) (fun q h9 => by cases h9)
        replace H := H.1 rfl
        refine g_s (pc' := 73) rfl ?_
        refine g_ifne (pc' := 76) rfl rfl (fun hc => ?_) (fun hc => ?_)
        · replace H := H.1 hc
          refine g_s (pc' := 77) rfl ?_
          refine g_getf (pc' := 80) (v := .ref 1022) rfl rfl rfl rfl rfl ?_
          refine g_getf (pc' := 83) (v := .int (yI w4 1022 3)) rfl rfl rfl rfl rfl ?_
          refine g_psh (pc' := 85) (v' := .int 16) rfl (congrArg Value.int kc_b16) ?_
          refine g_icge (pc' := 88) rfl rfl (fun hc => ?_) (fun hc => ?_)
          · replace H := H.1 hc
            refine g_s (pc' := 89) rfl ?_
            refine g_s (pc' := 90) rfl ?_
            refine g_psh (pc' := 91) (v' := .int (-1)) rfl (congrArg Value.int kc_im1) ?_
            refine g_callv (a := m_X8_beginRecording) (as := [.ref 1000, .int a1, .int (-1 : Int32)]) (rest := []) (ls0 := [.ref 1000, .int a1, .int (-1 : Int32)]) (pc' := 94) (t_virt rfl rfl rfl rfl rfl rfl) rfl rfl rfl ?_
            refine zGo.mono H (zKv_mono ?_)
            intro w7 H
            exact g_retv rfl rfl H
          · replace H := H.2 hc
            exact g_retv rfl rfl H
        · replace H := H.2 hc
          exact g_retv rfl rfl H
      | some q6 =>
        refine g_ifnonnull (pc' := 72) (o := some q6) rfl rfl (fun h9 => by cases h9) (fun _ _ => ?_)
        replace H := H.2 q6 rfl
        exact g_retv rfl rfl H
    · replace H := H.2 hc
      exact g_retv rfl rfl H
