/-! what is enough for a run from here, of each method: printed by gen_wp.py out of the table -/
set_option maxHeartbeats 4000000 in
theorem B_J7_fill_53178_0 {d : Nat} {w : zm} {F : zm → Prop} (p0 : Nat) (a1 : Int32) (np0 : Nat)
    (H : (yk w p0 = some (.inr (0, np0))) ∧ (Nat.ble 1000 p0 = true) ∧ zGo d m_J7_fill_53178 5 [.ref p0, .int a1, .int (0 : Int32), .int (Int32.ofNat np0)] [] (yz w) (zKv F)) :
    zGo d m_J7_fill_53178 0 [.ref p0, .int a1, zJ, zJ] [] (yz w) (zKv F) := by
  refine g_psh (pc' := 1) (v' := .int 0) rfl (congrArg Value.int kc_i0) ?_
  refine g_ist (k := 2) (pc' := 2) (ls' := [.ref p0, .int a1, .int (0 : Int32), zJ]) rfl rfl rfl rfl (zst1_of rfl (Or.inr rfl) rfl) ?_
  refine g_s (pc' := 3) rfl ?_
  obtain ⟨hk1, H⟩ := H
  obtain ⟨hb2, H⟩ := H
  refine g_alen (pc' := 4) rfl rfl rfl rfl hk1 rfl ?_
  refine g_ist (k := 3) (pc' := 5) (ls' := [.ref p0, .int a1, .int (0 : Int32), .int (Int32.ofNat np0)]) rfl rfl rfl rfl (zst1_of rfl (Or.inr rfl) rfl) ?_
  exact H
set_option maxHeartbeats 4000000 in
theorem B_J7_fill_53178_5 {d : Nat} {w : zm} {F : zm → Prop} (p0 : Nat) (a1 : Int32) (a2 : Int32) (a3 : Int32) (np0 : Nat)
    (H : ((a2 < a3 → (yk w p0 = some (.inr (0, np0))) ∧ (Nat.ble 1000 p0 = true) ∧ (zin a2 np0) ∧ zGo d m_J7_fill_53178 5 [.ref p0, .int a1, .int (a2 + 1), .int a3] [] (yz (yuA w p0 (Int32.toNatClampNeg a2) a1)) (zKv F)) ∧ (¬ a2 < a3 → F w))) :
    zGo d m_J7_fill_53178 5 [.ref p0, .int a1, .int a2, .int a3] [] (yz w) (zKv F) := by
  refine g_s (pc' := 6) rfl ?_
  refine g_s (pc' := 7) rfl ?_
  refine g_icge (pc' := 10) rfl rfl (fun hc => ?_) (fun hc => ?_)
  · replace H := H.1 hc
    refine g_s (pc' := 11) rfl ?_
    refine g_s (pc' := 12) rfl ?_
    refine g_s (pc' := 13) rfl ?_
    obtain ⟨hk1, H⟩ := H
    obtain ⟨hb2, H⟩ := H
    obtain ⟨hi3, H⟩ := H
    refine g_iast (pc' := 14) rfl rfl rfl rfl hk1 hb2 hi3 ?_
    refine g_inc (pc' := 17) (ls' := [.ref p0, .int a1, .int (a2 + 1), .int a3]) rfl rfl rfl kc_i1 (zst1_of rfl (Or.inr rfl) rfl) ?_
    refine g_s (pc' := 5) rfl ?_
    exact H
  · replace H := H.2 hc
    exact g_retv rfl rfl H
set_option maxHeartbeats 4000000 in
theorem B_X2_addGuard_r_0 {d : Nat} {w : zm} {F : zm → Prop} (a1 : Int32)
    (H : ((a1 < 0 → F w) ∧ (¬ a1 < 0 → ((a1 < (48 : Int32) → (((yI w 1026 6) < 0 → F w) ∧ (¬ (yI w 1026 6) < 0 → (((yI w 1026 6) < (48 : Int32) → (zin a1 48) ∧ (zin a1 48) ∧ (zin (yI w 1026 6) 48) ∧ F (yuI (yuA (yuA w 1029 (Int32.toNatClampNeg a1) (yI w 1026 6)) 1030 (Int32.toNatClampNeg (yI w 1026 6)) (yA w 1027 (Int32.toNatClampNeg a1))) 1026 6 ((yI w 1026 6) + (1 : Int32)))) ∧ (¬ (yI w 1026 6) < (48 : Int32) → F w))))) ∧ (¬ a1 < (48 : Int32) → F w))))) :
    zGo d m_X2_addGuard 0 [.ref 1026, .int a1] [] (yz w) (zKv F) := by
  refine g_s (pc' := 1) rfl ?_
  refine g_iflt (pc' := 4) rfl rfl (fun hc => ?_) (fun hc => ?_)
  · replace H := H.1 hc
    exact g_retv rfl rfl H
  · replace H := H.2 hc
    refine g_s (pc' := 5) rfl ?_
    refine g_psh (pc' := 7) (v' := .int 48) rfl (congrArg Value.int kc_b48) ?_
    refine g_icge (pc' := 10) rfl rfl (fun hc => ?_) (fun hc => ?_)
    · replace H := H.1 hc
      refine g_s (pc' := 11) rfl ?_
      refine g_getf (pc' := 14) (v := .int (yI w 1026 6)) rfl rfl rfl rfl rfl ?_
      refine g_iflt (pc' := 17) rfl rfl (fun hc => ?_) (fun hc => ?_)
      · replace H := H.1 hc
        exact g_retv rfl rfl H
      · replace H := H.2 hc
        refine g_s (pc' := 18) rfl ?_
        refine g_getf (pc' := 21) (v := .int (yI w 1026 6)) rfl rfl rfl rfl rfl ?_
        refine g_psh (pc' := 23) (v' := .int 48) rfl (congrArg Value.int kc_b48) ?_
        refine g_icge (pc' := 26) rfl rfl (fun hc => ?_) (fun hc => ?_)
        · replace H := H.1 hc
          refine g_s (pc' := 27) rfl ?_
          refine g_getf (pc' := 30) (v := .ref 1029) rfl rfl rfl rfl rfl ?_
          refine g_s (pc' := 31) rfl ?_
          refine g_s (pc' := 32) rfl ?_
          refine g_getf (pc' := 35) (v := .int (yI w 1026 6)) rfl rfl rfl rfl rfl ?_
          obtain ⟨hi1, H⟩ := H
          refine g_iast (pc' := 36) rfl rfl rfl rfl rfl rfl hi1 ?_
          refine g_s (pc' := 37) rfl ?_
          refine g_getf (pc' := 40) (v := .ref 1030) rfl rfl rfl rfl rfl ?_
          refine g_s (pc' := 41) rfl ?_
          refine g_getf (pc' := 44) (v := .int (yI w 1026 6)) rfl rfl rfl rfl rfl ?_
          refine g_s (pc' := 45) rfl ?_
          refine g_getf (pc' := 48) (v := .ref 1027) rfl rfl rfl rfl rfl ?_
          refine g_s (pc' := 49) rfl ?_
          obtain ⟨hi2, H⟩ := H
          refine g_iald (pc' := 50) rfl rfl rfl rfl rfl (Or.inl rfl) hi2 ?_
          obtain ⟨hi3, H⟩ := H
          refine g_iast (pc' := 51) rfl rfl rfl rfl rfl rfl hi3 ?_
          refine g_s (pc' := 52) rfl ?_
          refine g_s (pc' := 53) rfl ?_
          refine g_getf (pc' := 56) (v := .int (yI w 1026 6)) rfl rfl rfl rfl rfl ?_
          refine g_psh (pc' := 57) (v' := .int 1) rfl (congrArg Value.int kc_i1) ?_
          refine g_s (pc' := 58) (st' := [.int ((yI w 1026 6) + (1 : Int32)), .ref 1026]) rfl ?_
          refine g_putI (pc' := 61) rfl rfl rfl rfl rfl rfl (fun _ => rfl) ?_
          exact g_retv rfl rfl H
        · replace H := H.2 hc
          exact g_retv rfl rfl H
    · replace H := H.2 hc
      exact g_retv rfl rfl H
set_option maxHeartbeats 4000000 in
theorem B_X2_add_r_0 {d : Nat} {w : zm} {F : zm → Prop} (a1 : Int32) (a2 : Int32)
    (H : (((yI w 1026 4) < 0 → F w) ∧ (¬ (yI w 1026 4) < 0 → (((yI w 1026 4) < (48 : Int32) → (zin (yI w 1026 4) 48) ∧ ((a2 = 0 → zGo d m_X2_add 44 [.ref 1026, .int a1, .int a2] [.int (0 : Int32), .int (yI w 1026 4), .ref 1028] (yz (yuA w 1027 (Int32.toNatClampNeg (yI w 1026 4)) a1)) (zKv F)) ∧ (¬ a2 = 0 → zGo d m_X2_add 44 [.ref 1026, .int a1, .int a2] [.int (1 : Int32), .int (yI w 1026 4), .ref 1028] (yz (yuA w 1027 (Int32.toNatClampNeg (yI w 1026 4)) a1)) (zKv F)))) ∧ (¬ (yI w 1026 4) < (48 : Int32) → F w))))) :
    zGo d m_X2_add 0 [.ref 1026, .int a1, .int a2] [] (yz w) (zKv F) := by
  refine g_s (pc' := 1) rfl ?_
  refine g_getf (pc' := 4) (v := .int (yI w 1026 4)) rfl rfl rfl rfl rfl ?_
  refine g_iflt (pc' := 7) rfl rfl (fun hc => ?_) (fun hc => ?_)
  · replace H := H.1 hc
    exact g_retv rfl rfl H
  · replace H := H.2 hc
    refine g_s (pc' := 8) rfl ?_
    refine g_getf (pc' := 11) (v := .int (yI w 1026 4)) rfl rfl rfl rfl rfl ?_
    refine g_psh (pc' := 13) (v' := .int 48) rfl (congrArg Value.int kc_b48) ?_
    refine g_iclt (pc' := 16) rfl rfl (fun hc => ?_) (fun hc => ?_)
    · replace H := H.1 hc
      refine g_s (pc' := 18) rfl ?_
      refine g_getf (pc' := 21) (v := .ref 1027) rfl rfl rfl rfl rfl ?_
      refine g_s (pc' := 22) rfl ?_
      refine g_getf (pc' := 25) (v := .int (yI w 1026 4)) rfl rfl rfl rfl rfl ?_
      refine g_s (pc' := 26) rfl ?_
      obtain ⟨hi1, H⟩ := H
      refine g_iast (pc' := 27) rfl rfl rfl rfl rfl rfl hi1 ?_
      refine g_s (pc' := 28) rfl ?_
      refine g_getf (pc' := 31) (v := .ref 1028) rfl rfl rfl rfl rfl ?_
      refine g_s (pc' := 32) rfl ?_
      refine g_getf (pc' := 35) (v := .int (yI w 1026 4)) rfl rfl rfl rfl rfl ?_
      refine g_s (pc' := 36) rfl ?_
      refine g_ifeq (pc' := 39) rfl rfl (fun hc => ?_) (fun hc => ?_)
      · replace H := H.1 hc
        refine g_psh (pc' := 44) (v' := .int 0) rfl (congrArg Value.int kc_i0) ?_
        exact H
      · replace H := H.2 hc
        refine g_psh (pc' := 40) (v' := .int 1) rfl (congrArg Value.int kc_i1) ?_
        refine g_s (pc' := 44) rfl ?_
        exact H
    · replace H := H.2 hc
      exact g_retv rfl rfl H
set_option maxHeartbeats 4000000 in
theorem B_X2_add_r_44 {d : Nat} {w : zm} {F : zm → Prop} (a1 : Int32) (a2 : Int32) (s0 : Int32) (s1 : Int32)
    (H : (zin s1 48) ∧ (zin (yI w 1026 4) 48) ∧ F (yuI (yuA (yuA w 1028 (Int32.toNatClampNeg s1) s0) 1029 (Int32.toNatClampNeg (yI w 1026 4)) (-1 : Int32)) 1026 4 ((yI w 1026 4) + (1 : Int32)))) :
    zGo d m_X2_add 44 [.ref 1026, .int a1, .int a2] [.int s0, .int s1, .ref 1028] (yz w) (zKv F) := by
  obtain ⟨hi1, H⟩ := H
  refine g_iast (pc' := 45) rfl rfl rfl rfl rfl rfl hi1 ?_
  refine g_s (pc' := 46) rfl ?_
  refine g_getf (pc' := 49) (v := .ref 1029) rfl rfl rfl rfl rfl ?_
  refine g_s (pc' := 50) rfl ?_
  refine g_getf (pc' := 53) (v := .int (yI w 1026 4)) rfl rfl rfl rfl rfl ?_
  refine g_psh (pc' := 54) (v' := .int (-1)) rfl (congrArg Value.int kc_im1) ?_
  obtain ⟨hi2, H⟩ := H
  refine g_iast (pc' := 55) rfl rfl rfl rfl rfl rfl hi2 ?_
  refine g_s (pc' := 56) rfl ?_
  refine g_s (pc' := 57) rfl ?_
  refine g_getf (pc' := 60) (v := .int (yI w 1026 4)) rfl rfl rfl rfl rfl ?_
  refine g_psh (pc' := 61) (v' := .int 1) rfl (congrArg Value.int kc_i1) ?_
  refine g_s (pc' := 62) (st' := [.int ((yI w 1026 4) + (1 : Int32)), .ref 1026]) rfl ?_
  refine g_putI (pc' := 65) rfl rfl rfl rfl rfl rfl (fun _ => rfl) ?_
  exact g_retv rfl rfl H
set_option maxHeartbeats 4000000 in
theorem B_X2_begin_r_0 {d : Nat} {w : zm} {F : zm → Prop} (a1 : Int32)
    (H : F (yuI (yuI (yuI (yuI (yuI w 1026 4 (0 : Int32)) 1026 5 a1) 1026 6 (0 : Int32)) 1026 7 (0 : Int32)) 1026 8 (0 : Int32))) :
    zGo d m_X2_begin 0 [.ref 1026, .int a1] [] (yz w) (zKv F) := by
  refine g_s (pc' := 1) rfl ?_
  refine g_psh (pc' := 2) (v' := .int 0) rfl (congrArg Value.int kc_i0) ?_
  refine g_putI (pc' := 5) rfl rfl rfl rfl rfl rfl (fun _ => rfl) ?_
  refine g_s (pc' := 6) rfl ?_
  refine g_s (pc' := 7) rfl ?_
  refine g_putI (pc' := 10) rfl rfl rfl rfl rfl rfl (fun _ => rfl) ?_
  refine g_s (pc' := 11) rfl ?_
  refine g_psh (pc' := 12) (v' := .int 0) rfl (congrArg Value.int kc_i0) ?_
  refine g_putI (pc' := 15) rfl rfl rfl rfl rfl rfl (fun _ => rfl) ?_
  refine g_s (pc' := 16) rfl ?_
  refine g_psh (pc' := 17) (v' := .int 0) rfl (congrArg Value.int kc_i0) ?_
  refine g_putI (pc' := 20) rfl rfl rfl rfl rfl rfl (fun _ => rfl) ?_
  refine g_s (pc' := 21) rfl ?_
  refine g_psh (pc' := 22) (v' := .int 0) rfl (congrArg Value.int kc_i0) ?_
  refine g_putI (pc' := 25) rfl rfl rfl rfl rfl rfl (fun _ => rfl) ?_
  exact g_retv rfl rfl H
set_option maxHeartbeats 4000000 in
theorem B_X2_copy_0 {d : Nat} {w : zm} {F : zm → Prop} (p0 : Nat)
    (H : (yP w p0) ∧ (1027 ≠ (p0 + 1)) ∧ (1028 ≠ (p0 + 2)) ∧ (1029 ≠ (p0 + 3)) ∧ (1030 ≠ (p0 + 4)) ∧ F (yuI (yuI (yuI (yuI (yuI (yuR (yuR (yuR (yuR w (p0 + 1) (va_cpy (yA w 1027 ) (yA w (p0 + 1) ) (Int32.toNatClampNeg (0 : Int32)) (Int32.toNatClampNeg (0 : Int32)) (Int32.toNatClampNeg (48 : Int32)))) (p0 + 2) (va_cpy (yA (yuR w (p0 + 1) (va_cpy (yA w 1027 ) (yA w (p0 + 1) ) (Int32.toNatClampNeg (0 : Int32)) (Int32.toNatClampNeg (0 : Int32)) (Int32.toNatClampNeg (48 : Int32)))) 1028 ) (yA (yuR w (p0 + 1) (va_cpy (yA w 1027 ) (yA w (p0 + 1) ) (Int32.toNatClampNeg (0 : Int32)) (Int32.toNatClampNeg (0 : Int32)) (Int32.toNatClampNeg (48 : Int32)))) (p0 + 2) ) (Int32.toNatClampNeg (0 : Int32)) (Int32.toNatClampNeg (0 : Int32)) (Int32.toNatClampNeg (48 : Int32)))) (p0 + 3) (va_cpy (yA (yuR (yuR w (p0 + 1) (va_cpy (yA w 1027 ) (yA w (p0 + 1) ) (Int32.toNatClampNeg (0 : Int32)) (Int32.toNatClampNeg (0 : Int32)) (Int32.toNatClampNeg (48 : Int32)))) (p0 + 2) (va_cpy (yA (yuR w (p0 + 1) (va_cpy (yA w 1027 ) (yA w (p0 + 1) ) (Int32.toNatClampNeg (0 : Int32)) (Int32.toNatClampNeg (0 : Int32)) (Int32.toNatClampNeg (48 : Int32)))) 1028 ) (yA (yuR w (p0 + 1) (va_cpy (yA w 1027 ) (yA w (p0 + 1) ) (Int32.toNatClampNeg (0 : Int32)) (Int32.toNatClampNeg (0 : Int32)) (Int32.toNatClampNeg (48 : Int32)))) (p0 + 2) ) (Int32.toNatClampNeg (0 : Int32)) (Int32.toNatClampNeg (0 : Int32)) (Int32.toNatClampNeg (48 : Int32)))) 1029 ) (yA (yuR (yuR w (p0 + 1) (va_cpy (yA w 1027 ) (yA w (p0 + 1) ) (Int32.toNatClampNeg (0 : Int32)) (Int32.toNatClampNeg (0 : Int32)) (Int32.toNatClampNeg (48 : Int32)))) (p0 + 2) (va_cpy (yA (yuR w (p0 + 1) (va_cpy (yA w 1027 ) (yA w (p0 + 1) ) (Int32.toNatClampNeg (0 : Int32)) (Int32.toNatClampNeg (0 : Int32)) (Int32.toNatClampNeg (48 : Int32)))) 1028 ) (yA (yuR w (p0 + 1) (va_cpy (yA w 1027 ) (yA w (p0 + 1) ) (Int32.toNatClampNeg (0 : Int32)) (Int32.toNatClampNeg (0 : Int32)) (Int32.toNatClampNeg (48 : Int32)))) (p0 + 2) ) (Int32.toNatClampNeg (0 : Int32)) (Int32.toNatClampNeg (0 : Int32)) (Int32.toNatClampNeg (48 : Int32)))) (p0 + 3) ) (Int32.toNatClampNeg (0 : Int32)) (Int32.toNatClampNeg (0 : Int32)) (Int32.toNatClampNeg (48 : Int32)))) (p0 + 4) (va_cpy (yA (yuR (yuR (yuR w (p0 + 1) (va_cpy (yA w 1027 ) (yA w (p0 + 1) ) (Int32.toNatClampNeg (0 : Int32)) (Int32.toNatClampNeg (0 : Int32)) (Int32.toNatClampNeg (48 : Int32)))) (p0 + 2) (va_cpy (yA (yuR w (p0 + 1) (va_cpy (yA w 1027 ) (yA w (p0 + 1) ) (Int32.toNatClampNeg (0 : Int32)) (Int32.toNatClampNeg (0 : Int32)) (Int32.toNatClampNeg (48 : Int32)))) 1028 ) (yA (yuR w (p0 + 1) (va_cpy (yA w 1027 ) (yA w (p0 + 1) ) (Int32.toNatClampNeg (0 : Int32)) (Int32.toNatClampNeg (0 : Int32)) (Int32.toNatClampNeg (48 : Int32)))) (p0 + 2) ) (Int32.toNatClampNeg (0 : Int32)) (Int32.toNatClampNeg (0 : Int32)) (Int32.toNatClampNeg (48 : Int32)))) (p0 + 3) (va_cpy (yA (yuR (yuR w (p0 + 1) (va_cpy (yA w 1027 ) (yA w (p0 + 1) ) (Int32.toNatClampNeg (0 : Int32)) (Int32.toNatClampNeg (0 : Int32)) (Int32.toNatClampNeg (48 : Int32)))) (p0 + 2) (va_cpy (yA (yuR w (p0 + 1) (va_cpy (yA w 1027 ) (yA w (p0 + 1) ) (Int32.toNatClampNeg (0 : Int32)) (Int32.toNatClampNeg (0 : Int32)) (Int32.toNatClampNeg (48 : Int32)))) 1028 ) (yA (yuR w (p0 + 1) (va_cpy (yA w 1027 ) (yA w (p0 + 1) ) (Int32.toNatClampNeg (0 : Int32)) (Int32.toNatClampNeg (0 : Int32)) (Int32.toNatClampNeg (48 : Int32)))) (p0 + 2) ) (Int32.toNatClampNeg (0 : Int32)) (Int32.toNatClampNeg (0 : Int32)) (Int32.toNatClampNeg (48 : Int32)))) 1029 ) (yA (yuR (yuR w (p0 + 1) (va_cpy (yA w 1027 ) (yA w (p0 + 1) ) (Int32.toNatClampNeg (0 : Int32)) (Int32.toNatClampNeg (0 : Int32)) (Int32.toNatClampNeg (48 : Int32)))) (p0 + 2) (va_cpy (yA (yuR w (p0 + 1) (va_cpy (yA w 1027 ) (yA w (p0 + 1) ) (Int32.toNatClampNeg (0 : Int32)) (Int32.toNatClampNeg (0 : Int32)) (Int32.toNatClampNeg (48 : Int32)))) 1028 ) (yA (yuR w (p0 + 1) (va_cpy (yA w 1027 ) (yA w (p0 + 1) ) (Int32.toNatClampNeg (0 : Int32)) (Int32.toNatClampNeg (0 : Int32)) (Int32.toNatClampNeg (48 : Int32)))) (p0 + 2) ) (Int32.toNatClampNeg (0 : Int32)) (Int32.toNatClampNeg (0 : Int32)) (Int32.toNatClampNeg (48 : Int32)))) (p0 + 3) ) (Int32.toNatClampNeg (0 : Int32)) (Int32.toNatClampNeg (0 : Int32)) (Int32.toNatClampNeg (48 : Int32)))) 1030 ) (yA (yuR (yuR (yuR w (p0 + 1) (va_cpy (yA w 1027 ) (yA w (p0 + 1) ) (Int32.toNatClampNeg (0 : Int32)) (Int32.toNatClampNeg (0 : Int32)) (Int32.toNatClampNeg (48 : Int32)))) (p0 + 2) (va_cpy (yA (yuR w (p0 + 1) (va_cpy (yA w 1027 ) (yA w (p0 + 1) ) (Int32.toNatClampNeg (0 : Int32)) (Int32.toNatClampNeg (0 : Int32)) (Int32.toNatClampNeg (48 : Int32)))) 1028 ) (yA (yuR w (p0 + 1) (va_cpy (yA w 1027 ) (yA w (p0 + 1) ) (Int32.toNatClampNeg (0 : Int32)) (Int32.toNatClampNeg (0 : Int32)) (Int32.toNatClampNeg (48 : Int32)))) (p0 + 2) ) (Int32.toNatClampNeg (0 : Int32)) (Int32.toNatClampNeg (0 : Int32)) (Int32.toNatClampNeg (48 : Int32)))) (p0 + 3) (va_cpy (yA (yuR (yuR w (p0 + 1) (va_cpy (yA w 1027 ) (yA w (p0 + 1) ) (Int32.toNatClampNeg (0 : Int32)) (Int32.toNatClampNeg (0 : Int32)) (Int32.toNatClampNeg (48 : Int32)))) (p0 + 2) (va_cpy (yA (yuR w (p0 + 1) (va_cpy (yA w 1027 ) (yA w (p0 + 1) ) (Int32.toNatClampNeg (0 : Int32)) (Int32.toNatClampNeg (0 : Int32)) (Int32.toNatClampNeg (48 : Int32)))) 1028 ) (yA (yuR w (p0 + 1) (va_cpy (yA w 1027 ) (yA w (p0 + 1) ) (Int32.toNatClampNeg (0 : Int32)) (Int32.toNatClampNeg (0 : Int32)) (Int32.toNatClampNeg (48 : Int32)))) (p0 + 2) ) (Int32.toNatClampNeg (0 : Int32)) (Int32.toNatClampNeg (0 : Int32)) (Int32.toNatClampNeg (48 : Int32)))) 1029 ) (yA (yuR (yuR w (p0 + 1) (va_cpy (yA w 1027 ) (yA w (p0 + 1) ) (Int32.toNatClampNeg (0 : Int32)) (Int32.toNatClampNeg (0 : Int32)) (Int32.toNatClampNeg (48 : Int32)))) (p0 + 2) (va_cpy (yA (yuR w (p0 + 1) (va_cpy (yA w 1027 ) (yA w (p0 + 1) ) (Int32.toNatClampNeg (0 : Int32)) (Int32.toNatClampNeg (0 : Int32)) (Int32.toNatClampNeg (48 : Int32)))) 1028 ) (yA (yuR w (p0 + 1) (va_cpy (yA w 1027 ) (yA w (p0 + 1) ) (Int32.toNatClampNeg (0 : Int32)) (Int32.toNatClampNeg (0 : Int32)) (Int32.toNatClampNeg (48 : Int32)))) (p0 + 2) ) (Int32.toNatClampNeg (0 : Int32)) (Int32.toNatClampNeg (0 : Int32)) (Int32.toNatClampNeg (48 : Int32)))) (p0 + 3) ) (Int32.toNatClampNeg (0 : Int32)) (Int32.toNatClampNeg (0 : Int32)) (Int32.toNatClampNeg (48 : Int32)))) (p0 + 4) ) (Int32.toNatClampNeg (0 : Int32)) (Int32.toNatClampNeg (0 : Int32)) (Int32.toNatClampNeg (48 : Int32)))) p0 4 (yI w 1026 4)) p0 5 (yI w 1026 5)) p0 6 (yI w 1026 6)) p0 7 (yI w 1026 7)) p0 8 (yI w 1026 8))) :
    zGo d m_X2_copy 0 [.ref p0, .ref 1026] [] (yz w) (zKv F) := by
  refine g_s (pc' := 1) rfl ?_
  refine g_getf (pc' := 4) (v := .ref 1027) rfl rfl rfl rfl rfl ?_
  refine g_psh (pc' := 5) (v' := .int 0) rfl (congrArg Value.int kc_i0) ?_
  refine g_s (pc' := 6) rfl ?_
  obtain ⟨hs1, H⟩ := H
  refine g_getf (pc' := 9) (v := .ref (p0 + 1)) rfl rfl (yP_k hs1) rfl (congrArg va_rf (yP_r0 hs1)) ?_
  refine g_psh (pc' := 10) (v' := .int 0) rfl (congrArg Value.int kc_i0) ?_
  refine g_psh (pc' := 12) (v' := .int 48) rfl (congrArg Value.int kc_b48) ?_
  obtain ⟨hn2, H⟩ := H
  refine g_cpy (pc' := 15) rfl rfl rfl (yP_k0 hs1) hn2 rfl (yP_b0 hs1) (by decide) (by decide) (by decide) (by decide) (by decide) rfl ?_
  refine g_s (pc' := 16) rfl ?_
  refine g_getf (pc' := 19) (v := .ref 1028) rfl rfl rfl rfl rfl ?_
  refine g_psh (pc' := 20) (v' := .int 0) rfl (congrArg Value.int kc_i0) ?_
  refine g_s (pc' := 21) rfl ?_
  refine g_getf (pc' := 24) (v := .ref (p0 + 2)) rfl rfl (yP_k hs1) rfl (congrArg va_rf (yP_r1 hs1)) ?_
  refine g_psh (pc' := 25) (v' := .int 0) rfl (congrArg Value.int kc_i0) ?_
  refine g_psh (pc' := 27) (v' := .int 48) rfl (congrArg Value.int kc_b48) ?_
  obtain ⟨hn3, H⟩ := H
  refine g_cpy (pc' := 30) rfl rfl rfl (yP_k1 hs1) hn3 rfl (yP_b1 hs1) (by decide) (by decide) (by decide) (by decide) (by decide) rfl ?_
  refine g_s (pc' := 31) rfl ?_
  refine g_getf (pc' := 34) (v := .ref 1029) rfl rfl rfl rfl rfl ?_
  refine g_psh (pc' := 35) (v' := .int 0) rfl (congrArg Value.int kc_i0) ?_
  refine g_s (pc' := 36) rfl ?_
  refine g_getf (pc' := 39) (v := .ref (p0 + 3)) rfl rfl (yP_k hs1) rfl (congrArg va_rf (yP_r2 hs1)) ?_
  refine g_psh (pc' := 40) (v' := .int 0) rfl (congrArg Value.int kc_i0) ?_
  refine g_psh (pc' := 42) (v' := .int 48) rfl (congrArg Value.int kc_b48) ?_
  obtain ⟨hn4, H⟩ := H
  refine g_cpy (pc' := 45) rfl rfl rfl (yP_k2 hs1) hn4 rfl (yP_b2 hs1) (by decide) (by decide) (by decide) (by decide) (by decide) rfl ?_
  refine g_s (pc' := 46) rfl ?_
  refine g_getf (pc' := 49) (v := .ref 1030) rfl rfl rfl rfl rfl ?_
  refine g_psh (pc' := 50) (v' := .int 0) rfl (congrArg Value.int kc_i0) ?_
  refine g_s (pc' := 51) rfl ?_
  refine g_getf (pc' := 54) (v := .ref (p0 + 4)) rfl rfl (yP_k hs1) rfl (congrArg va_rf (yP_r3 hs1)) ?_
  refine g_psh (pc' := 55) (v' := .int 0) rfl (congrArg Value.int kc_i0) ?_
  refine g_psh (pc' := 57) (v' := .int 48) rfl (congrArg Value.int kc_b48) ?_
  obtain ⟨hn5, H⟩ := H
  refine g_cpy (pc' := 60) rfl rfl rfl (yP_k3 hs1) hn5 rfl (yP_b3 hs1) (by decide) (by decide) (by decide) (by decide) (by decide) rfl ?_
  refine g_s (pc' := 61) rfl ?_
  refine g_s (pc' := 62) rfl ?_
  refine g_getf (pc' := 65) (v := .int (yI w 1026 4)) rfl rfl rfl rfl rfl ?_
  refine g_putI (pc' := 68) rfl rfl (yP_k hs1) rfl (yP_b hs1) rfl (fun _ => rfl) ?_
  refine g_s (pc' := 69) rfl ?_
  refine g_s (pc' := 70) rfl ?_
  refine g_getf (pc' := 73) (v := .int (yI w 1026 5)) rfl rfl rfl rfl rfl ?_
  refine g_putI (pc' := 76) rfl rfl (yP_k hs1) rfl (yP_b hs1) rfl (fun _ => rfl) ?_
  refine g_s (pc' := 77) rfl ?_
  refine g_s (pc' := 78) rfl ?_
  refine g_getf (pc' := 81) (v := .int (yI w 1026 6)) rfl rfl rfl rfl rfl ?_
  refine g_putI (pc' := 84) rfl rfl (yP_k hs1) rfl (yP_b hs1) rfl (fun _ => rfl) ?_
  refine g_s (pc' := 85) rfl ?_
  refine g_s (pc' := 86) rfl ?_
  refine g_getf (pc' := 89) (v := .int (yI w 1026 7)) rfl rfl rfl rfl rfl ?_
  refine g_putI (pc' := 92) rfl rfl (yP_k hs1) rfl (yP_b hs1) rfl (fun _ => rfl) ?_
  refine g_s (pc' := 93) rfl ?_
  refine g_s (pc' := 94) rfl ?_
  refine g_getf (pc' := 97) (v := .int (yI w 1026 8)) rfl rfl rfl rfl rfl ?_
  refine g_putI (pc' := 100) rfl rfl (yP_k hs1) rfl (yP_b hs1) rfl (fun _ => rfl) ?_
  exact g_retv rfl rfl H
set_option maxHeartbeats 4000000 in
theorem B_X2_guardOf_0 {d : Nat} {w : zm} {F : Int32 → zm → Prop} (p0 : Nat) (a1 : Int32)
    (H : ((a1 < 0 → F (-1 : Int32) w) ∧ (¬ a1 < 0 → (yP w p0) ∧ ((a1 < (yI w p0 4) → ((a1 < (48 : Int32) → (zin a1 48) ∧ F (yA w (p0 + 3) (Int32.toNatClampNeg a1)) w) ∧ (¬ a1 < (48 : Int32) → F (-1 : Int32) w))) ∧ (¬ a1 < (yI w p0 4) → F (-1 : Int32) w))))) :
    zGo d m_X2_guardOf 0 [.ref p0, .int a1] [] (yz w) (zKi F) := by
  refine g_s (pc' := 1) rfl ?_
  refine g_iflt (pc' := 4) rfl rfl (fun hc => ?_) (fun hc => ?_)
  · replace H := H.1 hc
    refine g_psh (pc' := 28) (v' := .int (-1)) rfl (congrArg Value.int kc_im1) ?_
    exact g_reti rfl rfl H
  · replace H := H.2 hc
    refine g_s (pc' := 5) rfl ?_
    refine g_s (pc' := 6) rfl ?_
    obtain ⟨hs1, H⟩ := H
    refine g_getf (pc' := 9) (v := .int (yI w p0 4)) rfl rfl (yP_k hs1) rfl rfl ?_
    refine g_icge (pc' := 12) rfl rfl (fun hc => ?_) (fun hc => ?_)
    · replace H := H.1 hc
      refine g_s (pc' := 13) rfl ?_
      refine g_psh (pc' := 15) (v' := .int 48) rfl (congrArg Value.int kc_b48) ?_
      refine g_icge (pc' := 18) rfl rfl (fun hc => ?_) (fun hc => ?_)
      · replace H := H.1 hc
        refine g_s (pc' := 19) rfl ?_
        refine g_getf (pc' := 22) (v := .ref (p0 + 3)) rfl rfl (yP_k hs1) rfl (congrArg va_rf (yP_r2 hs1)) ?_
        refine g_s (pc' := 23) rfl ?_
        obtain ⟨hi2, H⟩ := H
        refine g_iald (pc' := 24) rfl rfl rfl rfl (yP_k2 hs1) (Or.inl rfl) hi2 ?_
        refine g_s (pc' := 28) rfl ?_
        exact g_reti rfl rfl H
      · replace H := H.2 hc
        refine g_psh (pc' := 28) (v' := .int (-1)) rfl (congrArg Value.int kc_im1) ?_
        exact g_reti rfl rfl H
    · replace H := H.2 hc
      refine g_psh (pc' := 28) (v' := .int (-1)) rfl (congrArg Value.int kc_im1) ?_
      exact g_reti rfl rfl H
set_option maxHeartbeats 4000000 in
theorem B_X2_init_0 {d : Nat} {w : zm} {F : zm → Prop} (p0 : Nat)
    (H : (yfix (ySz w) = false) ∧ (yk (yuN w (Int32.toNatClampNeg (48 : Int32)) (.inr (0, (Int32.toNatClampNeg (48 : Int32))))) p0 = some (.inl 2)) ∧ (Nat.ble 1000 p0 = true) ∧ (yfix p0 = false) ∧ (yfix (ySz (yuF (yuN w (Int32.toNatClampNeg (48 : Int32)) (.inr (0, (Int32.toNatClampNeg (48 : Int32))))) p0 0 (some (ySz w)))) = false) ∧ (yk (yuN (yuF (yuN w (Int32.toNatClampNeg (48 : Int32)) (.inr (0, (Int32.toNatClampNeg (48 : Int32))))) p0 0 (some (ySz w))) (Int32.toNatClampNeg (48 : Int32)) (.inr (0, (Int32.toNatClampNeg (48 : Int32))))) p0 = some (.inl 2)) ∧ (Nat.ble 1000 p0 = true) ∧ (yfix p0 = false) ∧ (yfix (ySz (yuF (yuN (yuF (yuN w (Int32.toNatClampNeg (48 : Int32)) (.inr (0, (Int32.toNatClampNeg (48 : Int32))))) p0 0 (some (ySz w))) (Int32.toNatClampNeg (48 : Int32)) (.inr (0, (Int32.toNatClampNeg (48 : Int32))))) p0 1 (some (ySz (yuF (yuN w (Int32.toNatClampNeg (48 : Int32)) (.inr (0, (Int32.toNatClampNeg (48 : Int32))))) p0 0 (some (ySz w))))))) = false) ∧ (yk (yuN (yuF (yuN (yuF (yuN w (Int32.toNatClampNeg (48 : Int32)) (.inr (0, (Int32.toNatClampNeg (48 : Int32))))) p0 0 (some (ySz w))) (Int32.toNatClampNeg (48 : Int32)) (.inr (0, (Int32.toNatClampNeg (48 : Int32))))) p0 1 (some (ySz (yuF (yuN w (Int32.toNatClampNeg (48 : Int32)) (.inr (0, (Int32.toNatClampNeg (48 : Int32))))) p0 0 (some (ySz w)))))) (Int32.toNatClampNeg (48 : Int32)) (.inr (0, (Int32.toNatClampNeg (48 : Int32))))) p0 = some (.inl 2)) ∧ (Nat.ble 1000 p0 = true) ∧ (yfix p0 = false) ∧ (yfix (ySz (yuF (yuN (yuF (yuN (yuF (yuN w (Int32.toNatClampNeg (48 : Int32)) (.inr (0, (Int32.toNatClampNeg (48 : Int32))))) p0 0 (some (ySz w))) (Int32.toNatClampNeg (48 : Int32)) (.inr (0, (Int32.toNatClampNeg (48 : Int32))))) p0 1 (some (ySz (yuF (yuN w (Int32.toNatClampNeg (48 : Int32)) (.inr (0, (Int32.toNatClampNeg (48 : Int32))))) p0 0 (some (ySz w)))))) (Int32.toNatClampNeg (48 : Int32)) (.inr (0, (Int32.toNatClampNeg (48 : Int32))))) p0 2 (some (ySz (yuF (yuN (yuF (yuN w (Int32.toNatClampNeg (48 : Int32)) (.inr (0, (Int32.toNatClampNeg (48 : Int32))))) p0 0 (some (ySz w))) (Int32.toNatClampNeg (48 : Int32)) (.inr (0, (Int32.toNatClampNeg (48 : Int32))))) p0 1 (some (ySz (yuF (yuN w (Int32.toNatClampNeg (48 : Int32)) (.inr (0, (Int32.toNatClampNeg (48 : Int32))))) p0 0 (some (ySz w)))))))))) = false) ∧ (yk (yuN (yuF (yuN (yuF (yuN (yuF (yuN w (Int32.toNatClampNeg (48 : Int32)) (.inr (0, (Int32.toNatClampNeg (48 : Int32))))) p0 0 (some (ySz w))) (Int32.toNatClampNeg (48 : Int32)) (.inr (0, (Int32.toNatClampNeg (48 : Int32))))) p0 1 (some (ySz (yuF (yuN w (Int32.toNatClampNeg (48 : Int32)) (.inr (0, (Int32.toNatClampNeg (48 : Int32))))) p0 0 (some (ySz w)))))) (Int32.toNatClampNeg (48 : Int32)) (.inr (0, (Int32.toNatClampNeg (48 : Int32))))) p0 2 (some (ySz (yuF (yuN (yuF (yuN w (Int32.toNatClampNeg (48 : Int32)) (.inr (0, (Int32.toNatClampNeg (48 : Int32))))) p0 0 (some (ySz w))) (Int32.toNatClampNeg (48 : Int32)) (.inr (0, (Int32.toNatClampNeg (48 : Int32))))) p0 1 (some (ySz (yuF (yuN w (Int32.toNatClampNeg (48 : Int32)) (.inr (0, (Int32.toNatClampNeg (48 : Int32))))) p0 0 (some (ySz w))))))))) (Int32.toNatClampNeg (48 : Int32)) (.inr (0, (Int32.toNatClampNeg (48 : Int32))))) p0 = some (.inl 2)) ∧ (Nat.ble 1000 p0 = true) ∧ (yfix p0 = false) ∧ F (yuF (yuN (yuF (yuN (yuF (yuN (yuF (yuN w (Int32.toNatClampNeg (48 : Int32)) (.inr (0, (Int32.toNatClampNeg (48 : Int32))))) p0 0 (some (ySz w))) (Int32.toNatClampNeg (48 : Int32)) (.inr (0, (Int32.toNatClampNeg (48 : Int32))))) p0 1 (some (ySz (yuF (yuN w (Int32.toNatClampNeg (48 : Int32)) (.inr (0, (Int32.toNatClampNeg (48 : Int32))))) p0 0 (some (ySz w)))))) (Int32.toNatClampNeg (48 : Int32)) (.inr (0, (Int32.toNatClampNeg (48 : Int32))))) p0 2 (some (ySz (yuF (yuN (yuF (yuN w (Int32.toNatClampNeg (48 : Int32)) (.inr (0, (Int32.toNatClampNeg (48 : Int32))))) p0 0 (some (ySz w))) (Int32.toNatClampNeg (48 : Int32)) (.inr (0, (Int32.toNatClampNeg (48 : Int32))))) p0 1 (some (ySz (yuF (yuN w (Int32.toNatClampNeg (48 : Int32)) (.inr (0, (Int32.toNatClampNeg (48 : Int32))))) p0 0 (some (ySz w))))))))) (Int32.toNatClampNeg (48 : Int32)) (.inr (0, (Int32.toNatClampNeg (48 : Int32))))) p0 3 (some (ySz (yuF (yuN (yuF (yuN (yuF (yuN w (Int32.toNatClampNeg (48 : Int32)) (.inr (0, (Int32.toNatClampNeg (48 : Int32))))) p0 0 (some (ySz w))) (Int32.toNatClampNeg (48 : Int32)) (.inr (0, (Int32.toNatClampNeg (48 : Int32))))) p0 1 (some (ySz (yuF (yuN w (Int32.toNatClampNeg (48 : Int32)) (.inr (0, (Int32.toNatClampNeg (48 : Int32))))) p0 0 (some (ySz w)))))) (Int32.toNatClampNeg (48 : Int32)) (.inr (0, (Int32.toNatClampNeg (48 : Int32))))) p0 2 (some (ySz (yuF (yuN (yuF (yuN w (Int32.toNatClampNeg (48 : Int32)) (.inr (0, (Int32.toNatClampNeg (48 : Int32))))) p0 0 (some (ySz w))) (Int32.toNatClampNeg (48 : Int32)) (.inr (0, (Int32.toNatClampNeg (48 : Int32))))) p0 1 (some (ySz (yuF (yuN w (Int32.toNatClampNeg (48 : Int32)) (.inr (0, (Int32.toNatClampNeg (48 : Int32))))) p0 0 (some (ySz w))))))))))))) :
    zGo d m_X2_init 0 [.ref p0] [] (yz w) (zKv F) := by
  refine g_s (pc' := 1) rfl ?_
  refine g_s (pc' := 4) rfl ?_
  refine g_s (pc' := 5) rfl ?_
  refine g_psh (pc' := 7) (v' := .int 48) rfl (congrArg Value.int kc_b48) ?_
  obtain ⟨hx1, H⟩ := H
  refine g_newa (pc' := 9) rfl rfl rfl (Or.inl rfl) hx1 (by decide) (by decide) ?_
  obtain ⟨hk2, H⟩ := H
  obtain ⟨hb3, H⟩ := H
  obtain ⟨hx4, H⟩ := H
  refine g_putF (pc' := 12) rfl rfl hk2 rfl hb3 hx4 rfl (fun _ => rfl) ?_
  refine g_s (pc' := 13) rfl ?_
  refine g_psh (pc' := 15) (v' := .int 48) rfl (congrArg Value.int kc_b48) ?_
  obtain ⟨hx5, H⟩ := H
  refine g_newa (pc' := 17) rfl rfl rfl (Or.inl rfl) hx5 (by decide) (by decide) ?_
  obtain ⟨hk6, H⟩ := H
  obtain ⟨hb7, H⟩ := H
  obtain ⟨hx8, H⟩ := H
  refine g_putF (pc' := 20) rfl rfl hk6 rfl hb7 hx8 rfl (fun _ => rfl) ?_
  refine g_s (pc' := 21) rfl ?_
  refine g_psh (pc' := 23) (v' := .int 48) rfl (congrArg Value.int kc_b48) ?_
  obtain ⟨hx9, H⟩ := H
  refine g_newa (pc' := 25) rfl rfl rfl (Or.inl rfl) hx9 (by decide) (by decide) ?_
  obtain ⟨hk10, H⟩ := H
  obtain ⟨hb11, H⟩ := H
  obtain ⟨hx12, H⟩ := H
  refine g_putF (pc' := 28) rfl rfl hk10 rfl hb11 hx12 rfl (fun _ => rfl) ?_
  refine g_s (pc' := 29) rfl ?_
  refine g_psh (pc' := 31) (v' := .int 48) rfl (congrArg Value.int kc_b48) ?_
  obtain ⟨hx13, H⟩ := H
  refine g_newa (pc' := 33) rfl rfl rfl (Or.inl rfl) hx13 (by decide) (by decide) ?_
  obtain ⟨hk14, H⟩ := H
  obtain ⟨hb15, H⟩ := H
  obtain ⟨hx16, H⟩ := H
  refine g_putF (pc' := 36) rfl rfl hk14 rfl hb15 hx16 rfl (fun _ => rfl) ?_
  exact g_retv rfl rfl H
set_option maxHeartbeats 4000000 in
theorem B_X2_wasZero_0 {d : Nat} {w : zm} {F : Int32 → zm → Prop} (p0 : Nat) (a1 : Int32)
    (H : ((a1 < 0 → F (0 : Int32) w) ∧ (¬ a1 < 0 → ((a1 < (48 : Int32) → (yP w p0) ∧ (zin a1 48) ∧ (((yA w (p0 + 2) (Int32.toNatClampNeg a1)) = (1 : Int32) → F (1 : Int32) w) ∧ (¬ (yA w (p0 + 2) (Int32.toNatClampNeg a1)) = (1 : Int32) → F (0 : Int32) w))) ∧ (¬ a1 < (48 : Int32) → F (0 : Int32) w))))) :
    zGo d m_X2_wasZero 0 [.ref p0, .int a1] [] (yz w) (zKi F) := by
  refine g_s (pc' := 1) rfl ?_
  refine g_iflt (pc' := 4) rfl rfl (fun hc => ?_) (fun hc => ?_)
  · replace H := H.1 hc
    refine g_psh (pc' := 25) (v' := .int 0) rfl (congrArg Value.int kc_i0) ?_
    exact g_reti rfl (zbool _ (Or.inl rfl)) H
  · replace H := H.2 hc
    refine g_s (pc' := 5) rfl ?_
    refine g_psh (pc' := 7) (v' := .int 48) rfl (congrArg Value.int kc_b48) ?_
    refine g_icge (pc' := 10) rfl rfl (fun hc => ?_) (fun hc => ?_)
    · replace H := H.1 hc
      refine g_s (pc' := 11) rfl ?_
      obtain ⟨hs1, H⟩ := H
      refine g_getf (pc' := 14) (v := .ref (p0 + 2)) rfl rfl (yP_k hs1) rfl (congrArg va_rf (yP_r1 hs1)) ?_
      refine g_s (pc' := 15) rfl ?_
      obtain ⟨hi2, H⟩ := H
      refine g_iald (pc' := 16) rfl rfl rfl rfl (yP_k1 hs1) (Or.inl rfl) hi2 ?_
      refine g_psh (pc' := 17) (v' := .int 1) rfl (congrArg Value.int kc_i1) ?_
      refine g_icne (pc' := 20) rfl rfl (fun hc => ?_) (fun hc => ?_)
      · replace H := H.1 hc
        refine g_psh (pc' := 21) (v' := .int 1) rfl (congrArg Value.int kc_i1) ?_
        refine g_s (pc' := 25) rfl ?_
        exact g_reti rfl (zbool _ (Or.inr rfl)) H
      · replace H := H.2 hc
        refine g_psh (pc' := 25) (v' := .int 0) rfl (congrArg Value.int kc_i0) ?_
        exact g_reti rfl (zbool _ (Or.inl rfl)) H
    · replace H := H.2 hc
      refine g_psh (pc' := 25) (v' := .int 0) rfl (congrArg Value.int kc_i0) ?_
      exact g_reti rfl (zbool _ (Or.inl rfl)) H
set_option maxHeartbeats 4000000 in
theorem B_X3_pop_m_0 {d : Nat} {w : zm} {F : Int32 → zm → Prop} 
    (H : ((0 < (yI w 1009 1) → (((16 : Int32) < (yI w 1009 1) → F (0 : Int32) w) ∧ (¬ (16 : Int32) < (yI w 1009 1) → (zin ((yI w 1009 1) - (1 : Int32)) 16) ∧ F (yA w 1010 (Int32.toNatClampNeg ((yI w 1009 1) - (1 : Int32)))) (yuI w 1009 1 ((yI w 1009 1) - (1 : Int32)))))) ∧ (¬ 0 < (yI w 1009 1) → F (0 : Int32) w))) :
    zGo d m_X3_pop 0 [.ref 1009] [] (yz w) (zKi F) := by
  refine g_s (pc' := 1) rfl ?_
  refine g_getf (pc' := 4) (v := .int (yI w 1009 1)) rfl rfl rfl rfl rfl ?_
  refine g_ifle (pc' := 7) rfl rfl (fun hc => ?_) (fun hc => ?_)
  · replace H := H.1 hc
    refine g_s (pc' := 8) rfl ?_
    refine g_getf (pc' := 11) (v := .int (yI w 1009 1)) rfl rfl rfl rfl rfl ?_
    refine g_psh (pc' := 13) (v' := .int 16) rfl (congrArg Value.int kc_b16) ?_
    refine g_icle (pc' := 16) rfl rfl (fun hc => ?_) (fun hc => ?_)
    · replace H := H.1 hc
      refine g_psh (pc' := 17) (v' := .int 0) rfl (congrArg Value.int kc_i0) ?_
      exact g_reti rfl rfl H
    · replace H := H.2 hc
      refine g_s (pc' := 19) rfl ?_
      refine g_s (pc' := 20) rfl ?_
      refine g_getf (pc' := 23) (v := .int (yI w 1009 1)) rfl rfl rfl rfl rfl ?_
      refine g_psh (pc' := 24) (v' := .int 1) rfl (congrArg Value.int kc_i1) ?_
      refine g_s (pc' := 25) (st' := [.int ((yI w 1009 1) - (1 : Int32)), .ref 1009]) rfl ?_
      refine g_putI (pc' := 28) rfl rfl rfl rfl rfl rfl (fun _ => rfl) ?_
      refine g_s (pc' := 29) rfl ?_
      refine g_getf (pc' := 32) (v := .ref 1010) rfl rfl rfl rfl rfl ?_
      refine g_s (pc' := 33) rfl ?_
      refine g_getf (pc' := 36) (v := .int ((yI w 1009 1) - (1 : Int32))) rfl rfl rfl rfl rfl ?_
      obtain ⟨hi1, H⟩ := H
      refine g_iald (pc' := 37) rfl rfl rfl rfl rfl (Or.inl rfl) hi1 ?_
      exact g_reti rfl rfl H
  · replace H := H.2 hc
    refine g_psh (pc' := 17) (v' := .int 0) rfl (congrArg Value.int kc_i0) ?_
    exact g_reti rfl rfl H
set_option maxHeartbeats 4000000 in
theorem B_X3_pop_v_0 {d : Nat} {w : zm} {F : Int32 → zm → Prop} 
    (H : ((0 < (yI w 1015 1) → (((16 : Int32) < (yI w 1015 1) → F (0 : Int32) w) ∧ (¬ (16 : Int32) < (yI w 1015 1) → (zin ((yI w 1015 1) - (1 : Int32)) 16) ∧ F (yA w 1016 (Int32.toNatClampNeg ((yI w 1015 1) - (1 : Int32)))) (yuI w 1015 1 ((yI w 1015 1) - (1 : Int32)))))) ∧ (¬ 0 < (yI w 1015 1) → F (0 : Int32) w))) :
    zGo d m_X3_pop 0 [.ref 1015] [] (yz w) (zKi F) := by
  refine g_s (pc' := 1) rfl ?_
  refine g_getf (pc' := 4) (v := .int (yI w 1015 1)) rfl rfl rfl rfl rfl ?_
  refine g_ifle (pc' := 7) rfl rfl (fun hc => ?_) (fun hc => ?_)
  · replace H := H.1 hc
    refine g_s (pc' := 8) rfl ?_
    refine g_getf (pc' := 11) (v := .int (yI w 1015 1)) rfl rfl rfl rfl rfl ?_
    refine g_psh (pc' := 13) (v' := .int 16) rfl (congrArg Value.int kc_b16) ?_
    refine g_icle (pc' := 16) rfl rfl (fun hc => ?_) (fun hc => ?_)
    · replace H := H.1 hc
      refine g_psh (pc' := 17) (v' := .int 0) rfl (congrArg Value.int kc_i0) ?_
      exact g_reti rfl rfl H
    · replace H := H.2 hc
      refine g_s (pc' := 19) rfl ?_
      refine g_s (pc' := 20) rfl ?_
      refine g_getf (pc' := 23) (v := .int (yI w 1015 1)) rfl rfl rfl rfl rfl ?_
      refine g_psh (pc' := 24) (v' := .int 1) rfl (congrArg Value.int kc_i1) ?_
      refine g_s (pc' := 25) (st' := [.int ((yI w 1015 1) - (1 : Int32)), .ref 1015]) rfl ?_
      refine g_putI (pc' := 28) rfl rfl rfl rfl rfl rfl (fun _ => rfl) ?_
      refine g_s (pc' := 29) rfl ?_
      refine g_getf (pc' := 32) (v := .ref 1016) rfl rfl rfl rfl rfl ?_
      refine g_s (pc' := 33) rfl ?_
      refine g_getf (pc' := 36) (v := .int ((yI w 1015 1) - (1 : Int32))) rfl rfl rfl rfl rfl ?_
      obtain ⟨hi1, H⟩ := H
      refine g_iald (pc' := 37) rfl rfl rfl rfl rfl (Or.inl rfl) hi1 ?_
      exact g_reti rfl rfl H
  · replace H := H.2 hc
    refine g_psh (pc' := 17) (v' := .int 0) rfl (congrArg Value.int kc_i0) ?_
    exact g_reti rfl rfl H
set_option maxHeartbeats 4000000 in
theorem B_X3_push_m_0 {d : Nat} {w : zm} {F : zm → Prop} (a1 : Int32)
    (H : (((yI w 1009 1) < 0 → F w) ∧ (¬ (yI w 1009 1) < 0 → (((yI w 1009 1) < (16 : Int32) → (zin (yI w 1009 1) 16) ∧ F (yuI (yuA w 1010 (Int32.toNatClampNeg (yI w 1009 1)) a1) 1009 1 ((yI w 1009 1) + (1 : Int32)))) ∧ (¬ (yI w 1009 1) < (16 : Int32) → F w))))) :
    zGo d m_X3_push 0 [.ref 1009, .int a1] [] (yz w) (zKv F) := by
  refine g_s (pc' := 1) rfl ?_
  refine g_getf (pc' := 4) (v := .int (yI w 1009 1)) rfl rfl rfl rfl rfl ?_
  refine g_iflt (pc' := 7) rfl rfl (fun hc => ?_) (fun hc => ?_)
  · replace H := H.1 hc
    exact g_retv rfl rfl H
  · replace H := H.2 hc
    refine g_s (pc' := 8) rfl ?_
    refine g_getf (pc' := 11) (v := .int (yI w 1009 1)) rfl rfl rfl rfl rfl ?_
    refine g_psh (pc' := 13) (v' := .int 16) rfl (congrArg Value.int kc_b16) ?_
    refine g_icge (pc' := 16) rfl rfl (fun hc => ?_) (fun hc => ?_)
    · replace H := H.1 hc
      refine g_s (pc' := 17) rfl ?_
      refine g_getf (pc' := 20) (v := .ref 1010) rfl rfl rfl rfl rfl ?_
      refine g_s (pc' := 21) rfl ?_
      refine g_getf (pc' := 24) (v := .int (yI w 1009 1)) rfl rfl rfl rfl rfl ?_
      refine g_s (pc' := 25) rfl ?_
      obtain ⟨hi1, H⟩ := H
      refine g_iast (pc' := 26) rfl rfl rfl rfl rfl rfl hi1 ?_
      refine g_s (pc' := 27) rfl ?_
      refine g_s (pc' := 28) rfl ?_
      refine g_getf (pc' := 31) (v := .int (yI w 1009 1)) rfl rfl rfl rfl rfl ?_
      refine g_psh (pc' := 32) (v' := .int 1) rfl (congrArg Value.int kc_i1) ?_
      refine g_s (pc' := 33) (st' := [.int ((yI w 1009 1) + (1 : Int32)), .ref 1009]) rfl ?_
      refine g_putI (pc' := 36) rfl rfl rfl rfl rfl rfl (fun _ => rfl) ?_
      exact g_retv rfl rfl H
    · replace H := H.2 hc
      exact g_retv rfl rfl H
set_option maxHeartbeats 4000000 in
theorem B_X3_push_v_0 {d : Nat} {w : zm} {F : zm → Prop} (a1 : Int32)
    (H : (((yI w 1015 1) < 0 → F w) ∧ (¬ (yI w 1015 1) < 0 → (((yI w 1015 1) < (16 : Int32) → (zin (yI w 1015 1) 16) ∧ F (yuI (yuA w 1016 (Int32.toNatClampNeg (yI w 1015 1)) a1) 1015 1 ((yI w 1015 1) + (1 : Int32)))) ∧ (¬ (yI w 1015 1) < (16 : Int32) → F w))))) :
    zGo d m_X3_push 0 [.ref 1015, .int a1] [] (yz w) (zKv F) := by
  refine g_s (pc' := 1) rfl ?_
  refine g_getf (pc' := 4) (v := .int (yI w 1015 1)) rfl rfl rfl rfl rfl ?_
  refine g_iflt (pc' := 7) rfl rfl (fun hc => ?_) (fun hc => ?_)
  · replace H := H.1 hc
    exact g_retv rfl rfl H
  · replace H := H.2 hc
    refine g_s (pc' := 8) rfl ?_
    refine g_getf (pc' := 11) (v := .int (yI w 1015 1)) rfl rfl rfl rfl rfl ?_
    refine g_psh (pc' := 13) (v' := .int 16) rfl (congrArg Value.int kc_b16) ?_
    refine g_icge (pc' := 16) rfl rfl (fun hc => ?_) (fun hc => ?_)
    · replace H := H.1 hc
      refine g_s (pc' := 17) rfl ?_
      refine g_getf (pc' := 20) (v := .ref 1016) rfl rfl rfl rfl rfl ?_
      refine g_s (pc' := 21) rfl ?_
      refine g_getf (pc' := 24) (v := .int (yI w 1015 1)) rfl rfl rfl rfl rfl ?_
      refine g_s (pc' := 25) rfl ?_
      obtain ⟨hi1, H⟩ := H
      refine g_iast (pc' := 26) rfl rfl rfl rfl rfl rfl hi1 ?_
      refine g_s (pc' := 27) rfl ?_
      refine g_s (pc' := 28) rfl ?_
      refine g_getf (pc' := 31) (v := .int (yI w 1015 1)) rfl rfl rfl rfl rfl ?_
      refine g_psh (pc' := 32) (v' := .int 1) rfl (congrArg Value.int kc_i1) ?_
      refine g_s (pc' := 33) (st' := [.int ((yI w 1015 1) + (1 : Int32)), .ref 1015]) rfl ?_
      refine g_putI (pc' := 36) rfl rfl rfl rfl rfl rfl (fun _ => rfl) ?_
      exact g_retv rfl rfl H
    · replace H := H.2 hc
      exact g_retv rfl rfl H
set_option maxHeartbeats 4000000 in
theorem B_X3_swap_m_0 {d : Nat} {w : zm} {F : zm → Prop} 
    (H : (((yI w 1009 1) < (2 : Int32) → F w) ∧ (¬ (yI w 1009 1) < (2 : Int32) → (((16 : Int32) < (yI w 1009 1) → F w) ∧ (¬ (16 : Int32) < (yI w 1009 1) → (zin ((yI w 1009 1) - (1 : Int32)) 16) ∧ (zin ((yI w 1009 1) - (2 : Int32)) 16) ∧ (zin ((yI w 1009 1) - (1 : Int32)) 16) ∧ (zin ((yI w 1009 1) - (2 : Int32)) 16) ∧ F (yuA (yuA w 1010 (Int32.toNatClampNeg ((yI w 1009 1) - (1 : Int32))) (yA w 1010 (Int32.toNatClampNeg ((yI w 1009 1) - (2 : Int32))))) 1010 (Int32.toNatClampNeg ((yI w 1009 1) - (2 : Int32))) (yA w 1010 (Int32.toNatClampNeg ((yI w 1009 1) - (1 : Int32)))))))))) :
    zGo d m_X3_swap 0 [.ref 1009, zJ] [] (yz w) (zKv F) := by
  refine g_s (pc' := 1) rfl ?_
  refine g_getf (pc' := 4) (v := .int (yI w 1009 1)) rfl rfl rfl rfl rfl ?_
  refine g_psh (pc' := 5) (v' := .int 2) rfl (congrArg Value.int kc_i2) ?_
  refine g_iclt (pc' := 8) rfl rfl (fun hc => ?_) (fun hc => ?_)
  · replace H := H.1 hc
    exact g_retv rfl rfl H
  · replace H := H.2 hc
    refine g_s (pc' := 9) rfl ?_
    refine g_getf (pc' := 12) (v := .int (yI w 1009 1)) rfl rfl rfl rfl rfl ?_
    refine g_psh (pc' := 14) (v' := .int 16) rfl (congrArg Value.int kc_b16) ?_
    refine g_icle (pc' := 17) rfl rfl (fun hc => ?_) (fun hc => ?_)
    · replace H := H.1 hc
      exact g_retv rfl rfl H
    · replace H := H.2 hc
      refine g_s (pc' := 19) rfl ?_
      refine g_getf (pc' := 22) (v := .ref 1010) rfl rfl rfl rfl rfl ?_
      refine g_s (pc' := 23) rfl ?_
      refine g_getf (pc' := 26) (v := .int (yI w 1009 1)) rfl rfl rfl rfl rfl ?_
      refine g_psh (pc' := 27) (v' := .int 1) rfl (congrArg Value.int kc_i1) ?_
      refine g_s (pc' := 28) (st' := [.int ((yI w 1009 1) - (1 : Int32)), .ref 1010]) rfl ?_
      obtain ⟨hi1, H⟩ := H
      refine g_iald (pc' := 29) rfl rfl rfl rfl rfl (Or.inl rfl) hi1 ?_
      refine g_ist (k := 1) (pc' := 30) (ls' := [.ref 1009, .int (yA w 1010 (Int32.toNatClampNeg ((yI w 1009 1) - (1 : Int32))))]) rfl rfl rfl rfl (zst1_of rfl (Or.inr rfl) rfl) ?_
      refine g_s (pc' := 31) rfl ?_
      refine g_getf (pc' := 34) (v := .ref 1010) rfl rfl rfl rfl rfl ?_
      refine g_s (pc' := 35) rfl ?_
      refine g_getf (pc' := 38) (v := .int (yI w 1009 1)) rfl rfl rfl rfl rfl ?_
      refine g_psh (pc' := 39) (v' := .int 1) rfl (congrArg Value.int kc_i1) ?_
      refine g_s (pc' := 40) (st' := [.int ((yI w 1009 1) - (1 : Int32)), .ref 1010]) rfl ?_
      refine g_s (pc' := 41) rfl ?_
      refine g_getf (pc' := 44) (v := .ref 1010) rfl rfl rfl rfl rfl ?_
      refine g_s (pc' := 45) rfl ?_
      refine g_getf (pc' := 48) (v := .int (yI w 1009 1)) rfl rfl rfl rfl rfl ?_
      refine g_psh (pc' := 49) (v' := .int 2) rfl (congrArg Value.int kc_i2) ?_
      refine g_s (pc' := 50) (st' := [.int ((yI w 1009 1) - (2 : Int32)), .ref 1010, .int ((yI w 1009 1) - (1 : Int32)), .ref 1010]) rfl ?_
      obtain ⟨hi2, H⟩ := H
      refine g_iald (pc' := 51) rfl rfl rfl rfl rfl (Or.inl rfl) hi2 ?_
      obtain ⟨hi3, H⟩ := H
      refine g_iast (pc' := 52) rfl rfl rfl rfl rfl rfl hi3 ?_
      refine g_s (pc' := 53) rfl ?_
      refine g_getf (pc' := 56) (v := .ref 1010) rfl rfl rfl rfl rfl ?_
      refine g_s (pc' := 57) rfl ?_
      refine g_getf (pc' := 60) (v := .int (yI w 1009 1)) rfl rfl rfl rfl rfl ?_
      refine g_psh (pc' := 61) (v' := .int 2) rfl (congrArg Value.int kc_i2) ?_
      refine g_s (pc' := 62) (st' := [.int ((yI w 1009 1) - (2 : Int32)), .ref 1010]) rfl ?_
      refine g_s (pc' := 63) rfl ?_
      obtain ⟨hi4, H⟩ := H
      refine g_iast (pc' := 64) rfl rfl rfl rfl rfl rfl hi4 ?_
      exact g_retv rfl rfl H
set_option maxHeartbeats 4000000 in
theorem B_X3_swap_v_0 {d : Nat} {w : zm} {F : zm → Prop} 
    (H : (((yI w 1015 1) < (2 : Int32) → F w) ∧ (¬ (yI w 1015 1) < (2 : Int32) → (((16 : Int32) < (yI w 1015 1) → F w) ∧ (¬ (16 : Int32) < (yI w 1015 1) → (zin ((yI w 1015 1) - (1 : Int32)) 16) ∧ (zin ((yI w 1015 1) - (2 : Int32)) 16) ∧ (zin ((yI w 1015 1) - (1 : Int32)) 16) ∧ (zin ((yI w 1015 1) - (2 : Int32)) 16) ∧ F (yuA (yuA w 1016 (Int32.toNatClampNeg ((yI w 1015 1) - (1 : Int32))) (yA w 1016 (Int32.toNatClampNeg ((yI w 1015 1) - (2 : Int32))))) 1016 (Int32.toNatClampNeg ((yI w 1015 1) - (2 : Int32))) (yA w 1016 (Int32.toNatClampNeg ((yI w 1015 1) - (1 : Int32)))))))))) :
    zGo d m_X3_swap 0 [.ref 1015, zJ] [] (yz w) (zKv F) := by
  refine g_s (pc' := 1) rfl ?_
  refine g_getf (pc' := 4) (v := .int (yI w 1015 1)) rfl rfl rfl rfl rfl ?_
  refine g_psh (pc' := 5) (v' := .int 2) rfl (congrArg Value.int kc_i2) ?_
  refine g_iclt (pc' := 8) rfl rfl (fun hc => ?_) (fun hc => ?_)
  · replace H := H.1 hc
    exact g_retv rfl rfl H
  · replace H := H.2 hc
    refine g_s (pc' := 9) rfl ?_
    refine g_getf (pc' := 12) (v := .int (yI w 1015 1)) rfl rfl rfl rfl rfl ?_
    refine g_psh (pc' := 14) (v' := .int 16) rfl (congrArg Value.int kc_b16) ?_
    refine g_icle (pc' := 17) rfl rfl (fun hc => ?_) (fun hc => ?_)
    · replace H := H.1 hc
      exact g_retv rfl rfl H
    · replace H := H.2 hc
      refine g_s (pc' := 19) rfl ?_
      refine g_getf (pc' := 22) (v := .ref 1016) rfl rfl rfl rfl rfl ?_
      refine g_s (pc' := 23) rfl ?_
      refine g_getf (pc' := 26) (v := .int (yI w 1015 1)) rfl rfl rfl rfl rfl ?_
      refine g_psh (pc' := 27) (v' := .int 1) rfl (congrArg Value.int kc_i1) ?_
      refine g_s (pc' := 28) (st' := [.int ((yI w 1015 1) - (1 : Int32)), .ref 1016]) rfl ?_
      obtain ⟨hi1, H⟩ := H
      refine g_iald (pc' := 29) rfl rfl rfl rfl rfl (Or.inl rfl) hi1 ?_
      refine g_ist (k := 1) (pc' := 30) (ls' := [.ref 1015, .int (yA w 1016 (Int32.toNatClampNeg ((yI w 1015 1) - (1 : Int32))))]) rfl rfl rfl rfl (zst1_of rfl (Or.inr rfl) rfl) ?_
      refine g_s (pc' := 31) rfl ?_
      refine g_getf (pc' := 34) (v := .ref 1016) rfl rfl rfl rfl rfl ?_
      refine g_s (pc' := 35) rfl ?_
      refine g_getf (pc' := 38) (v := .int (yI w 1015 1)) rfl rfl rfl rfl rfl ?_
      refine g_psh (pc' := 39) (v' := .int 1) rfl (congrArg Value.int kc_i1) ?_
      refine g_s (pc' := 40) (st' := [.int ((yI w 1015 1) - (1 : Int32)), .ref 1016]) rfl ?_
      refine g_s (pc' := 41) rfl ?_
      refine g_getf (pc' := 44) (v := .ref 1016) rfl rfl rfl rfl rfl ?_
      refine g_s (pc' := 45) rfl ?_
      refine g_getf (pc' := 48) (v := .int (yI w 1015 1)) rfl rfl rfl rfl rfl ?_
      refine g_psh (pc' := 49) (v' := .int 2) rfl (congrArg Value.int kc_i2) ?_
      refine g_s (pc' := 50) (st' := [.int ((yI w 1015 1) - (2 : Int32)), .ref 1016, .int ((yI w 1015 1) - (1 : Int32)), .ref 1016]) rfl ?_
      obtain ⟨hi2, H⟩ := H
      refine g_iald (pc' := 51) rfl rfl rfl rfl rfl (Or.inl rfl) hi2 ?_
      obtain ⟨hi3, H⟩ := H
      refine g_iast (pc' := 52) rfl rfl rfl rfl rfl rfl hi3 ?_
      refine g_s (pc' := 53) rfl ?_
      refine g_getf (pc' := 56) (v := .ref 1016) rfl rfl rfl rfl rfl ?_
      refine g_s (pc' := 57) rfl ?_
      refine g_getf (pc' := 60) (v := .int (yI w 1015 1)) rfl rfl rfl rfl rfl ?_
      refine g_psh (pc' := 61) (v' := .int 2) rfl (congrArg Value.int kc_i2) ?_
      refine g_s (pc' := 62) (st' := [.int ((yI w 1015 1) - (2 : Int32)), .ref 1016]) rfl ?_
      refine g_s (pc' := 63) rfl ?_
      obtain ⟨hi4, H⟩ := H
      refine g_iast (pc' := 64) rfl rfl rfl rfl rfl rfl hi4 ?_
      exact g_retv rfl rfl H
set_option maxHeartbeats 4000000 in
theorem B_X3_top_m_0 {d : Nat} {w : zm} {F : Int32 → zm → Prop} 
    (H : ((0 < (yI w 1009 1) → (((16 : Int32) < (yI w 1009 1) → F (0 : Int32) w) ∧ (¬ (16 : Int32) < (yI w 1009 1) → (zin ((yI w 1009 1) - (1 : Int32)) 16) ∧ F (yA w 1010 (Int32.toNatClampNeg ((yI w 1009 1) - (1 : Int32)))) w))) ∧ (¬ 0 < (yI w 1009 1) → F (0 : Int32) w))) :
    zGo d m_X3_top 0 [.ref 1009] [] (yz w) (zKi F) := by
  refine g_s (pc' := 1) rfl ?_
  refine g_getf (pc' := 4) (v := .int (yI w 1009 1)) rfl rfl rfl rfl rfl ?_
  refine g_ifle (pc' := 7) rfl rfl (fun hc => ?_) (fun hc => ?_)
  · replace H := H.1 hc
    refine g_s (pc' := 8) rfl ?_
    refine g_getf (pc' := 11) (v := .int (yI w 1009 1)) rfl rfl rfl rfl rfl ?_
    refine g_psh (pc' := 13) (v' := .int 16) rfl (congrArg Value.int kc_b16) ?_
    refine g_icgt (pc' := 16) rfl rfl (fun hc => ?_) (fun hc => ?_)
    · replace H := H.1 hc
      refine g_psh (pc' := 31) (v' := .int 0) rfl (congrArg Value.int kc_i0) ?_
      exact g_reti rfl rfl H
    · replace H := H.2 hc
      refine g_s (pc' := 17) rfl ?_
      refine g_getf (pc' := 20) (v := .ref 1010) rfl rfl rfl rfl rfl ?_
      refine g_s (pc' := 21) rfl ?_
      refine g_getf (pc' := 24) (v := .int (yI w 1009 1)) rfl rfl rfl rfl rfl ?_
      refine g_psh (pc' := 25) (v' := .int 1) rfl (congrArg Value.int kc_i1) ?_
      refine g_s (pc' := 26) (st' := [.int ((yI w 1009 1) - (1 : Int32)), .ref 1010]) rfl ?_
      obtain ⟨hi1, H⟩ := H
      refine g_iald (pc' := 27) rfl rfl rfl rfl rfl (Or.inl rfl) hi1 ?_
      refine g_s (pc' := 31) rfl ?_
      exact g_reti rfl rfl H
  · replace H := H.2 hc
    refine g_psh (pc' := 31) (v' := .int 0) rfl (congrArg Value.int kc_i0) ?_
    exact g_reti rfl rfl H
set_option maxHeartbeats 4000000 in
theorem B_X3_top_v_0 {d : Nat} {w : zm} {F : Int32 → zm → Prop} 
    (H : ((0 < (yI w 1015 1) → (((16 : Int32) < (yI w 1015 1) → F (0 : Int32) w) ∧ (¬ (16 : Int32) < (yI w 1015 1) → (zin ((yI w 1015 1) - (1 : Int32)) 16) ∧ F (yA w 1016 (Int32.toNatClampNeg ((yI w 1015 1) - (1 : Int32)))) w))) ∧ (¬ 0 < (yI w 1015 1) → F (0 : Int32) w))) :
    zGo d m_X3_top 0 [.ref 1015] [] (yz w) (zKi F) := by
  refine g_s (pc' := 1) rfl ?_
  refine g_getf (pc' := 4) (v := .int (yI w 1015 1)) rfl rfl rfl rfl rfl ?_
  refine g_ifle (pc' := 7) rfl rfl (fun hc => ?_) (fun hc => ?_)
  · replace H := H.1 hc
    refine g_s (pc' := 8) rfl ?_
    refine g_getf (pc' := 11) (v := .int (yI w 1015 1)) rfl rfl rfl rfl rfl ?_
    refine g_psh (pc' := 13) (v' := .int 16) rfl (congrArg Value.int kc_b16) ?_
    refine g_icgt (pc' := 16) rfl rfl (fun hc => ?_) (fun hc => ?_)
    · replace H := H.1 hc
      refine g_psh (pc' := 31) (v' := .int 0) rfl (congrArg Value.int kc_i0) ?_
      exact g_reti rfl rfl H
    · replace H := H.2 hc
      refine g_s (pc' := 17) rfl ?_
      refine g_getf (pc' := 20) (v := .ref 1016) rfl rfl rfl rfl rfl ?_
      refine g_s (pc' := 21) rfl ?_
      refine g_getf (pc' := 24) (v := .int (yI w 1015 1)) rfl rfl rfl rfl rfl ?_
      refine g_psh (pc' := 25) (v' := .int 1) rfl (congrArg Value.int kc_i1) ?_
      refine g_s (pc' := 26) (st' := [.int ((yI w 1015 1) - (1 : Int32)), .ref 1016]) rfl ?_
      obtain ⟨hi1, H⟩ := H
      refine g_iald (pc' := 27) rfl rfl rfl rfl rfl (Or.inl rfl) hi1 ?_
      refine g_s (pc' := 31) rfl ?_
      exact g_reti rfl rfl H
  · replace H := H.2 hc
    refine g_psh (pc' := 31) (v' := .int 0) rfl (congrArg Value.int kc_i0) ?_
    exact g_reti rfl rfl H
set_option maxHeartbeats 4000000 in
theorem B_X4_begin_0 {d : Nat} {w : zm} {F : zm → Prop} (a1 : Int32) (a2 : Int32) (a3 : Int32)
    (H : zGo d m_X2_begin 0 [.ref 1026, .int a3] [] (yz (yuI (yuI w 1025 1 a1) 1025 2 a2)) (zKv fun w1 => F w1)) :
    zGo (d + 1) m_X4_begin 0 [.ref 1025, .int a1, .int a2, .int a3] [] (yz w) (zKv F) := by
  refine g_s (pc' := 1) rfl ?_
  refine g_s (pc' := 2) rfl ?_
  refine g_putI (pc' := 5) rfl rfl rfl rfl rfl rfl (fun _ => rfl) ?_
  refine g_s (pc' := 6) rfl ?_
  refine g_s (pc' := 7) rfl ?_
  refine g_putI (pc' := 10) rfl rfl rfl rfl rfl rfl (fun _ => rfl) ?_
  refine g_s (pc' := 11) rfl ?_
  refine g_getf (pc' := 14) (v := .ref 1026) rfl rfl rfl rfl rfl ?_
  refine g_s (pc' := 15) rfl ?_
  refine g_callv (a := m_X2_begin) (as := [.ref 1026, .int a3]) (rest := []) (ls0 := [.ref 1026, .int a3]) (pc' := 18) (t_virt rfl rfl rfl rfl rfl rfl) rfl rfl rfl ?_
  refine zGo.mono H (zKv_mono ?_)
  intro w1 H
  exact g_retv rfl rfl H
set_option maxHeartbeats 4000000 in
theorem B_X4_drop_0 {d : Nat} {w : zm} {F : zm → Prop} 
    (H : F (yuI (yuI w 1025 1 (-1 : Int32)) 1025 2 (-1 : Int32))) :
    zGo d m_X4_drop 0 [.ref 1025] [] (yz w) (zKv F) := by
  refine g_s (pc' := 1) rfl ?_
  refine g_psh (pc' := 2) (v' := .int (-1)) rfl (congrArg Value.int kc_im1) ?_
  refine g_putI (pc' := 5) rfl rfl rfl rfl rfl rfl (fun _ => rfl) ?_
  refine g_s (pc' := 6) rfl ?_
  refine g_psh (pc' := 7) (v' := .int (-1)) rfl (congrArg Value.int kc_im1) ?_
  refine g_putI (pc' := 10) rfl rfl rfl rfl rfl rfl (fun _ => rfl) ?_
  exact g_retv rfl rfl H
set_option maxHeartbeats 4000000 in
theorem B_X4_isBackAt_0 {d : Nat} {w : zm} {F : Int32 → zm → Prop} (a1 : Int32)
    (H : zGo d m_X4_isOn 0 [.ref 1025] [] (yz w) (zKi fun v2 w1 => ((v2 = 0 → F (0 : Int32) w1) ∧ (¬ v2 = 0 → (((yI w1 1025 1) = a1 → ((0 < (yI w1 1026 4) → F (1 : Int32) w1) ∧ (¬ 0 < (yI w1 1026 4) → F (0 : Int32) w1))) ∧ (¬ (yI w1 1025 1) = a1 → F (0 : Int32) w1)))))) :
    zGo (d + 1) m_X4_isBackAt 0 [.ref 1025, .int a1] [] (yz w) (zKi F) := by
  refine g_s (pc' := 1) rfl ?_
  refine g_calli (a := m_X4_isOn) (as := [.ref 1025]) (rest := []) (ls0 := [.ref 1025]) (pc' := 4) (t_virt rfl rfl rfl rfl rfl rfl) rfl rfl rfl ?_
  refine zGo.mono H (zKi_mono ?_)
  intro v2 w1 H
  refine g_ifeq (pc' := 7) rfl rfl (fun hc => ?_) (fun hc => ?_)
  · replace H := H.1 hc
    refine g_psh (pc' := 30) (v' := .int 0) rfl (congrArg Value.int kc_i0) ?_
    exact g_reti rfl (zbool _ (Or.inl rfl)) H
  · replace H := H.2 hc
    refine g_s (pc' := 8) rfl ?_
    refine g_getf (pc' := 11) (v := .int (yI w1 1025 1)) rfl rfl rfl rfl rfl ?_
    refine g_s (pc' := 12) rfl ?_
    refine g_icne (pc' := 15) rfl rfl (fun hc => ?_) (fun hc => ?_)
    · replace H := H.1 hc
      refine g_s (pc' := 16) rfl ?_
      refine g_getf (pc' := 19) (v := .ref 1026) rfl rfl rfl rfl rfl ?_
      refine g_getf (pc' := 22) (v := .int (yI w1 1026 4)) rfl rfl rfl rfl rfl ?_
      refine g_ifle (pc' := 25) rfl rfl (fun hc => ?_) (fun hc => ?_)
      · replace H := H.1 hc
        refine g_psh (pc' := 26) (v' := .int 1) rfl (congrArg Value.int kc_i1) ?_
        refine g_s (pc' := 30) rfl ?_
        exact g_reti rfl (zbool _ (Or.inr rfl)) H
      · replace H := H.2 hc
        refine g_psh (pc' := 30) (v' := .int 0) rfl (congrArg Value.int kc_i0) ?_
        exact g_reti rfl (zbool _ (Or.inl rfl)) H
    · replace H := H.2 hc
      refine g_psh (pc' := 30) (v' := .int 0) rfl (congrArg Value.int kc_i0) ?_
      exact g_reti rfl (zbool _ (Or.inl rfl)) H
set_option maxHeartbeats 4000000 in
theorem B_X4_isOfBridge_0 {d : Nat} {w : zm} {F : Int32 → zm → Prop} 
    (H : (((yI w 1025 2) = (-1 : Int32) → F (0 : Int32) w) ∧ (¬ (yI w 1025 2) = (-1 : Int32) → F (1 : Int32) w))) :
    zGo d m_X4_isOfBridge 0 [.ref 1025] [] (yz w) (zKi F) := by
  refine g_s (pc' := 1) rfl ?_
  refine g_getf (pc' := 4) (v := .int (yI w 1025 2)) rfl rfl rfl rfl rfl ?_
  refine g_psh (pc' := 5) (v' := .int (-1)) rfl (congrArg Value.int kc_im1) ?_
  refine g_iceq (pc' := 8) rfl rfl (fun hc => ?_) (fun hc => ?_)
  · replace H := H.1 hc
    refine g_psh (pc' := 13) (v' := .int 0) rfl (congrArg Value.int kc_i0) ?_
    exact g_reti rfl (zbool _ (Or.inl rfl)) H
  · replace H := H.2 hc
    refine g_psh (pc' := 9) (v' := .int 1) rfl (congrArg Value.int kc_i1) ?_
    refine g_s (pc' := 13) rfl ?_
    exact g_reti rfl (zbool _ (Or.inr rfl)) H
set_option maxHeartbeats 4000000 in
theorem B_X4_isOn_0 {d : Nat} {w : zm} {F : Int32 → zm → Prop} 
    (H : (((yI w 1025 1) = (-1 : Int32) → F (0 : Int32) w) ∧ (¬ (yI w 1025 1) = (-1 : Int32) → F (1 : Int32) w))) :
    zGo d m_X4_isOn 0 [.ref 1025] [] (yz w) (zKi F) := by
  refine g_s (pc' := 1) rfl ?_
  refine g_getf (pc' := 4) (v := .int (yI w 1025 1)) rfl rfl rfl rfl rfl ?_
  refine g_psh (pc' := 5) (v' := .int (-1)) rfl (congrArg Value.int kc_im1) ?_
  refine g_iceq (pc' := 8) rfl rfl (fun hc => ?_) (fun hc => ?_)
  · replace H := H.1 hc
    refine g_psh (pc' := 13) (v' := .int 0) rfl (congrArg Value.int kc_i0) ?_
    exact g_reti rfl (zbool _ (Or.inl rfl)) H
  · replace H := H.2 hc
    refine g_psh (pc' := 9) (v' := .int 1) rfl (congrArg Value.int kc_i1) ?_
    refine g_s (pc' := 13) rfl ?_
    exact g_reti rfl (zbool _ (Or.inr rfl)) H
