/-! what is enough for a run from here, of each method: printed by gen_wp.py out of the table -/
set_option maxHeartbeats 4000000 in
theorem B_X5_addBridge_0 {d : Nat} {w : zm} {F : zm → Prop} (p0 : Nat) (a1 : Int32)
    (H : ((a1 < 0 → F w) ∧ (¬ a1 < 0 → ((a1 < (48 : Int32) → (yT w p0) ∧ (((yI w p0 6) < 0 → F w) ∧ (¬ (yI w p0 6) < 0 → (((yI w p0 6) < (4 : Int32) → (zin (yI w p0 6) 4) ∧ (∀ o3, (yQ w (p0 + 9) (Int32.toNatClampNeg (yI w p0 6))) = o3 → ((o3 = none → (yfix (ySz w) = false) ∧ zGo d m_X2_init 0 [.ref (ySz w)] [] (yz (yuN w 9 (.inl 2))) (zKv fun w6 => (yT w6 p0) ∧ (zin (yI w6 p0 6) 4) ∧ (yP w6 (ySz w)) ∧ zGo (d + 1) m_X5_addBridge 58 [.ref p0, .int a1, .ref 1026, .ref (ySz w)] [] (yz (yuQ w6 (p0 + 9) (Int32.toNatClampNeg (yI w6 p0 6)) (some (ySz w)))) (zKv F))) ∧ (∀ q4, o3 = some q4 → zGo (d + 1) m_X5_addBridge 58 [.ref p0, .int a1, .ref 1026, .ref q4] [] (yz w) (zKv F))))) ∧ (¬ (yI w p0 6) < (4 : Int32) → F w))))) ∧ (¬ a1 < (48 : Int32) → F w))))) :
    zGo (d + 1) m_X5_addBridge 0 [.ref p0, .int a1, .ref 1026, zJ] [] (yz w) (zKv F) := by
  refine g_s (pc' := 1) rfl ?_
  refine g_iflt (pc' := 4) rfl rfl (fun hc => ?_) (fun hc => ?_)
  · replace H := H.1 hc
    exact g_retv rfl rfl H
  · replace H := H.2 hc
    refine g_s (pc' := 5) rfl ?_
    refine g_psh (pc' := 7) (v' := .int 48) rfl (congrArg Value.int kc_b48) ?_
    refine g_icge (pc' := 10) rfl rfl (fun hc => ?_) (fun hc => ?_)
    · replace H := H.1 hc
      refine g_s (pc' := 11) rfl ?_
      obtain ⟨hs1, H⟩ := H
      refine g_getf (pc' := 14) (v := .int (yI w p0 6)) rfl rfl (yT_k hs1) rfl rfl ?_
      refine g_iflt (pc' := 17) rfl rfl (fun hc => ?_) (fun hc => ?_)
      · replace H := H.1 hc
        exact g_retv rfl rfl H
      · replace H := H.2 hc
        refine g_s (pc' := 18) rfl ?_
        refine g_getf (pc' := 21) (v := .int (yI w p0 6)) rfl rfl (yT_k hs1) rfl rfl ?_
        refine g_psh (pc' := 22) (v' := .int 4) rfl (congrArg Value.int kc_i4) ?_
        refine g_iclt (pc' := 25) rfl rfl (fun hc => ?_) (fun hc => ?_)
        · replace H := H.1 hc
          refine g_s (pc' := 27) rfl ?_
          refine g_getf (pc' := 30) (v := .ref (p0 + 9)) rfl rfl (yT_k hs1) rfl (congrArg va_rf (yT_r4 hs1)) ?_
          refine g_s (pc' := 31) rfl ?_
          refine g_getf (pc' := 34) (v := .int (yI w p0 6)) rfl rfl (yT_k hs1) rfl rfl ?_
          obtain ⟨hi2, H⟩ := H
          refine g_aald (pc' := 35) rfl rfl rfl rfl (yT_k4 hs1) (Or.inr rfl) hi2 (fun o3 ho => ?_)
          replace H := H o3 ho
          refine g_ast (k := 3) (pc' := 36) (o := o3) (ls' := [.ref p0, .int a1, .ref 1026, va_rf o3]) rfl rfl rfl rfl (zst1_of rfl (Or.inr rfl) rfl) ?_
          refine g_aldo (k := 3) (pc' := 37) (o := o3) rfl rfl rfl rfl rfl ?_
          cases o3 with
          | none =>
            refine g_ifnonnull (pc' := 40) (o := none) rfl rfl (fun _ => ?_) (fun q h9 => by cases h9)
            replace H := H.1 rfl
            obtain ⟨hx5, H⟩ := H
            refine g_newc (pc' := 43) rfl rfl hx5 ?_
            refine g_s (pc' := 44) rfl ?_
            refine g_callv (a := m_X2_init) (as := [.ref (ySz w)]) (rest := [.ref (ySz w)]) (ls0 := [.ref (ySz w)]) (pc' := 47) (t_spec rfl (Or.inr rfl) rfl rfl rfl rfl) rfl rfl rfl ?_
            refine zGo.mono H (zKv_mono ?_)
            intro w6 H
            refine g_ast (k := 3) (pc' := 48) (o := (some (ySz w))) (ls' := [.ref p0, .int a1, .ref 1026, .ref (ySz w)]) rfl rfl rfl rfl (zst1_of rfl (Or.inr rfl) rfl) ?_
            refine g_s (pc' := 49) rfl ?_
            obtain ⟨hs7, H⟩ := H
            refine g_getf (pc' := 52) (v := .ref (p0 + 9)) rfl rfl (yT_k hs7) rfl (congrArg va_rf (yT_r4 hs7)) ?_
            refine g_s (pc' := 53) rfl ?_
            refine g_getf (pc' := 56) (v := .int (yI w6 p0 6)) rfl rfl (yT_k hs7) rfl rfl ?_
            refine g_s (pc' := 57) rfl ?_
            obtain ⟨hi8, H⟩ := H
            obtain ⟨hs9, H⟩ := H
            refine g_aast (pc' := 58) rfl rfl rfl rfl (yT_k4 hs7) (Or.inr rfl) (yP_k hs9) rfl (yT_b4 hs7) hi8 ?_
            exact H
          | some q4 =>
            refine g_ifnonnull (pc' := 40) (o := some q4) rfl rfl (fun h9 => by cases h9) (fun _ _ => ?_)
            replace H := H.2 q4 rfl
            exact H
        · replace H := H.2 hc
          exact g_retv rfl rfl H
    · replace H := H.2 hc
      exact g_retv rfl rfl H
set_option maxHeartbeats 4000000 in
theorem B_X5_addBridge_58 {d : Nat} {w : zm} {F : zm → Prop} (p0 : Nat) (a1 : Int32) (p3 : Nat)
    (H : (yP w p3) ∧ zGo d m_X2_copy 0 [.ref p3, .ref 1026] [] (yz w) (zKv fun w2 => (yT w2 p0) ∧ (zin a1 48) ∧ F (yuI (yuA w2 (p0 + 8) (Int32.toNatClampNeg a1) (yI w2 p0 6)) p0 6 ((yI w2 p0 6) + (1 : Int32))))) :
    zGo (d + 1) m_X5_addBridge 58 [.ref p0, .int a1, .ref 1026, .ref p3] [] (yz w) (zKv F) := by
  refine g_s (pc' := 59) rfl ?_
  refine g_s (pc' := 60) rfl ?_
  obtain ⟨hs1, H⟩ := H
  refine g_callv (a := m_X2_copy) (as := [.ref p3, .ref 1026]) (rest := []) (ls0 := [.ref p3, .ref 1026]) (pc' := 63) (t_virt rfl rfl rfl rfl rfl (yP_k hs1)) rfl rfl rfl ?_
  refine zGo.mono H (zKv_mono ?_)
  intro w2 H
  refine g_s (pc' := 64) rfl ?_
  obtain ⟨hs3, H⟩ := H
  refine g_getf (pc' := 67) (v := .ref (p0 + 8)) rfl rfl (yT_k hs3) rfl (congrArg va_rf (yT_r3 hs3)) ?_
  refine g_s (pc' := 68) rfl ?_
  refine g_s (pc' := 69) rfl ?_
  refine g_getf (pc' := 72) (v := .int (yI w2 p0 6)) rfl rfl (yT_k hs3) rfl rfl ?_
  obtain ⟨hi4, H⟩ := H
  refine g_iast (pc' := 73) rfl rfl rfl rfl (yT_k3 hs3) (yT_b3 hs3) hi4 ?_
  refine g_s (pc' := 74) rfl ?_
  refine g_s (pc' := 75) rfl ?_
  refine g_getf (pc' := 78) (v := .int (yI w2 p0 6)) rfl rfl (yT_k hs3) rfl rfl ?_
  refine g_psh (pc' := 79) (v' := .int 1) rfl (congrArg Value.int kc_i1) ?_
  refine g_s (pc' := 80) (st' := [.int ((yI w2 p0 6) + (1 : Int32)), .ref p0]) rfl ?_
  refine g_putI (pc' := 83) rfl rfl (yT_k hs3) rfl (yT_b hs3) rfl (fun _ => rfl) ?_
  exact g_retv rfl rfl H
set_option maxHeartbeats 4000000 in
theorem B_X5_begin_0 {d : Nat} {w : zm} {F : zm → Prop} (p0 : Nat) (a1 : Int32)
    (H : (yT w p0) ∧ zGo d m_X2_copy 0 [.ref (p0 + 1), .ref 1026] [] (yz (yuI w p0 5 a1)) (zKv fun w2 => (yT w2 p0) ∧ zGo d m_J7_fill_53178 0 [.ref (p0 + 6), .int (0 : Int32), zJ, zJ] [] (yz w2) (zKv fun w4 => (yT w4 p0) ∧ zGo d m_J7_fill_53178 0 [.ref (p0 + 7), .int (0 : Int32), zJ, zJ] [] (yz w4) (zKv fun w6 => (yT w6 p0) ∧ zGo d m_J7_fill_53178 0 [.ref (p0 + 8), .int (-1 : Int32), zJ, zJ] [] (yz w6) (zKv fun w8 => (yT w8 p0) ∧ F (yuI (yuI (yuI w8 p0 6 (0 : Int32)) p0 7 (0 : Int32)) p0 8 (0 : Int32))))))) :
    zGo (d + 1) m_X5_begin 0 [.ref p0, .int a1, .ref 1026] [] (yz w) (zKv F) := by
  refine g_s (pc' := 1) rfl ?_
  refine g_s (pc' := 2) rfl ?_
  obtain ⟨hs1, H⟩ := H
  refine g_putI (pc' := 5) rfl rfl (yT_k hs1) rfl (yT_b hs1) rfl (fun _ => rfl) ?_
  refine g_s (pc' := 6) rfl ?_
  refine g_getf (pc' := 9) (v := .ref (p0 + 1)) rfl rfl (yT_k hs1) rfl (congrArg va_rf (yT_r0 hs1)) ?_
  refine g_s (pc' := 10) rfl ?_
  refine g_callv (a := m_X2_copy) (as := [.ref (p0 + 1), .ref 1026]) (rest := []) (ls0 := [.ref (p0 + 1), .ref 1026]) (pc' := 13) (t_virt rfl rfl rfl rfl rfl (yP_k (yT_P hs1))) rfl rfl rfl ?_
  refine zGo.mono H (zKv_mono ?_)
  intro w2 H
  refine g_s (pc' := 14) rfl ?_
  obtain ⟨hs3, H⟩ := H
  refine g_getf (pc' := 17) (v := .ref (p0 + 6)) rfl rfl (yT_k hs3) rfl (congrArg va_rf (yT_r1 hs3)) ?_
  refine g_psh (pc' := 18) (v' := .int 0) rfl (congrArg Value.int kc_i0) ?_
  refine g_callv (a := m_J7_fill_53178) (as := [.ref (p0 + 6), .int (0 : Int32)]) (rest := []) (ls0 := [.ref (p0 + 6), .int (0 : Int32), zJ, zJ]) (pc' := 21) (t_stat rfl (Or.inl rfl) rfl rfl rfl rfl) rfl rfl rfl ?_
  refine zGo.mono H (zKv_mono ?_)
  intro w4 H
  refine g_s (pc' := 22) rfl ?_
  obtain ⟨hs5, H⟩ := H
  refine g_getf (pc' := 25) (v := .ref (p0 + 7)) rfl rfl (yT_k hs5) rfl (congrArg va_rf (yT_r2 hs5)) ?_
  refine g_psh (pc' := 26) (v' := .int 0) rfl (congrArg Value.int kc_i0) ?_
  refine g_callv (a := m_J7_fill_53178) (as := [.ref (p0 + 7), .int (0 : Int32)]) (rest := []) (ls0 := [.ref (p0 + 7), .int (0 : Int32), zJ, zJ]) (pc' := 29) (t_stat rfl (Or.inl rfl) rfl rfl rfl rfl) rfl rfl rfl ?_
  refine zGo.mono H (zKv_mono ?_)
  intro w6 H
  refine g_s (pc' := 30) rfl ?_
  obtain ⟨hs7, H⟩ := H
  refine g_getf (pc' := 33) (v := .ref (p0 + 8)) rfl rfl (yT_k hs7) rfl (congrArg va_rf (yT_r3 hs7)) ?_
  refine g_psh (pc' := 34) (v' := .int (-1)) rfl (congrArg Value.int kc_im1) ?_
  refine g_callv (a := m_J7_fill_53178) (as := [.ref (p0 + 8), .int (-1 : Int32)]) (rest := []) (ls0 := [.ref (p0 + 8), .int (-1 : Int32), zJ, zJ]) (pc' := 37) (t_stat rfl (Or.inl rfl) rfl rfl rfl rfl) rfl rfl rfl ?_
  refine zGo.mono H (zKv_mono ?_)
  intro w8 H
  refine g_s (pc' := 38) rfl ?_
  refine g_psh (pc' := 39) (v' := .int 0) rfl (congrArg Value.int kc_i0) ?_
  obtain ⟨hs9, H⟩ := H
  refine g_putI (pc' := 42) rfl rfl (yT_k hs9) rfl (yT_b hs9) rfl (fun _ => rfl) ?_
  refine g_s (pc' := 43) rfl ?_
  refine g_psh (pc' := 44) (v' := .int 0) rfl (congrArg Value.int kc_i0) ?_
  refine g_putI (pc' := 47) rfl rfl (yT_k hs9) rfl (yT_b hs9) rfl (fun _ => rfl) ?_
  refine g_s (pc' := 48) rfl ?_
  refine g_psh (pc' := 49) (v' := .int 0) rfl (congrArg Value.int kc_i0) ?_
  refine g_putI (pc' := 52) rfl rfl (yT_k hs9) rfl (yT_b hs9) rfl (fun _ => rfl) ?_
  exact g_retv rfl rfl H
set_option maxHeartbeats 4000000 in
theorem B_X5_bridgeOf_0 {d : Nat} {w : zm} {F : Option Nat → zm → Prop} (p0 : Nat) (a1 : Int32)
    (H : ((a1 < 0 → zGo d m_X5_bridgeOf 20 [.ref p0, .int a1, zJ] [.int (-1 : Int32)] (yz w) (zKr F)) ∧ (¬ a1 < 0 → ((a1 < (48 : Int32) → (yT w p0) ∧ (zin a1 48) ∧ zGo d m_X5_bridgeOf 20 [.ref p0, .int a1, zJ] [.int (yA w (p0 + 8) (Int32.toNatClampNeg a1))] (yz w) (zKr F)) ∧ (¬ a1 < (48 : Int32) → zGo d m_X5_bridgeOf 20 [.ref p0, .int a1, zJ] [.int (-1 : Int32)] (yz w) (zKr F)))))) :
    zGo d m_X5_bridgeOf 0 [.ref p0, .int a1, zJ] [] (yz w) (zKr F) := by
  refine g_s (pc' := 1) rfl ?_
  refine g_iflt (pc' := 4) rfl rfl (fun hc => ?_) (fun hc => ?_)
  · replace H := H.1 hc
    refine g_psh (pc' := 20) (v' := .int (-1)) rfl (congrArg Value.int kc_im1) ?_
    exact H
  · replace H := H.2 hc
    refine g_s (pc' := 5) rfl ?_
    refine g_psh (pc' := 7) (v' := .int 48) rfl (congrArg Value.int kc_b48) ?_
    refine g_icge (pc' := 10) rfl rfl (fun hc => ?_) (fun hc => ?_)
    · replace H := H.1 hc
      refine g_s (pc' := 11) rfl ?_
      obtain ⟨hs1, H⟩ := H
      refine g_getf (pc' := 14) (v := .ref (p0 + 8)) rfl rfl (yT_k hs1) rfl (congrArg va_rf (yT_r3 hs1)) ?_
      refine g_s (pc' := 15) rfl ?_
      obtain ⟨hi2, H⟩ := H
      refine g_iald (pc' := 16) rfl rfl rfl rfl (yT_k3 hs1) (Or.inl rfl) hi2 ?_
      refine g_s (pc' := 20) rfl ?_
      exact H
    · replace H := H.2 hc
      refine g_psh (pc' := 20) (v' := .int (-1)) rfl (congrArg Value.int kc_im1) ?_
      exact H
set_option maxHeartbeats 4000000 in
theorem B_X5_bridgeOf_20 {d : Nat} {w : zm} {F : Option Nat → zm → Prop} (p0 : Nat) (a1 : Int32) (s0 : Int32)
    (H : ((s0 < 0 → F none w) ∧ (¬ s0 < 0 → ((s0 < (4 : Int32) → (yT w p0) ∧ (zin s0 4) ∧ (∀ o3, (yQ w (p0 + 9) (Int32.toNatClampNeg s0)) = o3 → F o3 w)) ∧ (¬ s0 < (4 : Int32) → F none w))))) :
    zGo d m_X5_bridgeOf 20 [.ref p0, .int a1, zJ] [.int s0] (yz w) (zKr F) := by
  refine g_ist (k := 2) (pc' := 21) (ls' := [.ref p0, .int a1, .int s0]) rfl rfl rfl rfl (zst1_of rfl (Or.inr rfl) rfl) ?_
  refine g_s (pc' := 22) rfl ?_
  refine g_iflt (pc' := 25) rfl rfl (fun hc => ?_) (fun hc => ?_)
  · replace H := H.1 hc
    refine g_s (pc' := 40) rfl ?_
    exact g_retr (x := none) rfl (zfitr _ rfl) H
  · replace H := H.2 hc
    refine g_s (pc' := 26) rfl ?_
    refine g_psh (pc' := 27) (v' := .int 4) rfl (congrArg Value.int kc_i4) ?_
    refine g_icge (pc' := 30) rfl rfl (fun hc => ?_) (fun hc => ?_)
    · replace H := H.1 hc
      refine g_s (pc' := 31) rfl ?_
      obtain ⟨hs1, H⟩ := H
      refine g_getf (pc' := 34) (v := .ref (p0 + 9)) rfl rfl (yT_k hs1) rfl (congrArg va_rf (yT_r4 hs1)) ?_
      refine g_s (pc' := 35) rfl ?_
      obtain ⟨hi2, H⟩ := H
      refine g_aald (pc' := 36) rfl rfl rfl rfl (yT_k4 hs1) (Or.inr rfl) hi2 (fun o3 ho => ?_)
      replace H := H o3 ho
      refine g_s (pc' := 40) rfl ?_
      exact g_retr (x := o3) rfl (zfitr _ rfl) H
    · replace H := H.2 hc
      refine g_s (pc' := 40) rfl ?_
      exact g_retr (x := none) rfl (zfitr _ rfl) H
set_option maxHeartbeats 4000000 in
theorem B_X5_init_0 {d : Nat} {w : zm} {F : zm → Prop} (p0 : Nat)
    (H : (yfix (ySz w) = false) ∧ zGo d m_X2_init 0 [.ref (ySz w)] [] (yz (yuN w 9 (.inl 2))) (zKv fun w2 => (yk w2 p0 = some (.inl 5)) ∧ (Nat.ble 1000 p0 = true) ∧ (yfix p0 = false) ∧ (yfix (ySz (yuF w2 p0 0 (some (ySz w)))) = false) ∧ (yk (yuN (yuF w2 p0 0 (some (ySz w))) (Int32.toNatClampNeg (48 : Int32)) (.inr (0, (Int32.toNatClampNeg (48 : Int32))))) p0 = some (.inl 5)) ∧ (Nat.ble 1000 p0 = true) ∧ (yfix p0 = false) ∧ (yfix (ySz (yuF (yuN (yuF w2 p0 0 (some (ySz w))) (Int32.toNatClampNeg (48 : Int32)) (.inr (0, (Int32.toNatClampNeg (48 : Int32))))) p0 1 (some (ySz (yuF w2 p0 0 (some (ySz w))))))) = false) ∧ (yk (yuN (yuF (yuN (yuF w2 p0 0 (some (ySz w))) (Int32.toNatClampNeg (48 : Int32)) (.inr (0, (Int32.toNatClampNeg (48 : Int32))))) p0 1 (some (ySz (yuF w2 p0 0 (some (ySz w)))))) (Int32.toNatClampNeg (48 : Int32)) (.inr (0, (Int32.toNatClampNeg (48 : Int32))))) p0 = some (.inl 5)) ∧ (Nat.ble 1000 p0 = true) ∧ (yfix p0 = false) ∧ (yfix (ySz (yuF (yuN (yuF (yuN (yuF w2 p0 0 (some (ySz w))) (Int32.toNatClampNeg (48 : Int32)) (.inr (0, (Int32.toNatClampNeg (48 : Int32))))) p0 1 (some (ySz (yuF w2 p0 0 (some (ySz w)))))) (Int32.toNatClampNeg (48 : Int32)) (.inr (0, (Int32.toNatClampNeg (48 : Int32))))) p0 2 (some (ySz (yuF (yuN (yuF w2 p0 0 (some (ySz w))) (Int32.toNatClampNeg (48 : Int32)) (.inr (0, (Int32.toNatClampNeg (48 : Int32))))) p0 1 (some (ySz (yuF w2 p0 0 (some (ySz w)))))))))) = false) ∧ (yk (yuN (yuF (yuN (yuF (yuN (yuF w2 p0 0 (some (ySz w))) (Int32.toNatClampNeg (48 : Int32)) (.inr (0, (Int32.toNatClampNeg (48 : Int32))))) p0 1 (some (ySz (yuF w2 p0 0 (some (ySz w)))))) (Int32.toNatClampNeg (48 : Int32)) (.inr (0, (Int32.toNatClampNeg (48 : Int32))))) p0 2 (some (ySz (yuF (yuN (yuF w2 p0 0 (some (ySz w))) (Int32.toNatClampNeg (48 : Int32)) (.inr (0, (Int32.toNatClampNeg (48 : Int32))))) p0 1 (some (ySz (yuF w2 p0 0 (some (ySz w))))))))) (Int32.toNatClampNeg (48 : Int32)) (.inr (0, (Int32.toNatClampNeg (48 : Int32))))) p0 = some (.inl 5)) ∧ (Nat.ble 1000 p0 = true) ∧ (yfix p0 = false) ∧ (yfix (ySz (yuF (yuN (yuF (yuN (yuF (yuN (yuF w2 p0 0 (some (ySz w))) (Int32.toNatClampNeg (48 : Int32)) (.inr (0, (Int32.toNatClampNeg (48 : Int32))))) p0 1 (some (ySz (yuF w2 p0 0 (some (ySz w)))))) (Int32.toNatClampNeg (48 : Int32)) (.inr (0, (Int32.toNatClampNeg (48 : Int32))))) p0 2 (some (ySz (yuF (yuN (yuF w2 p0 0 (some (ySz w))) (Int32.toNatClampNeg (48 : Int32)) (.inr (0, (Int32.toNatClampNeg (48 : Int32))))) p0 1 (some (ySz (yuF w2 p0 0 (some (ySz w))))))))) (Int32.toNatClampNeg (48 : Int32)) (.inr (0, (Int32.toNatClampNeg (48 : Int32))))) p0 3 (some (ySz (yuF (yuN (yuF (yuN (yuF w2 p0 0 (some (ySz w))) (Int32.toNatClampNeg (48 : Int32)) (.inr (0, (Int32.toNatClampNeg (48 : Int32))))) p0 1 (some (ySz (yuF w2 p0 0 (some (ySz w)))))) (Int32.toNatClampNeg (48 : Int32)) (.inr (0, (Int32.toNatClampNeg (48 : Int32))))) p0 2 (some (ySz (yuF (yuN (yuF w2 p0 0 (some (ySz w))) (Int32.toNatClampNeg (48 : Int32)) (.inr (0, (Int32.toNatClampNeg (48 : Int32))))) p0 1 (some (ySz (yuF w2 p0 0 (some (ySz w))))))))))))) = false) ∧ (yk (yuN (yuF (yuN (yuF (yuN (yuF (yuN (yuF w2 p0 0 (some (ySz w))) (Int32.toNatClampNeg (48 : Int32)) (.inr (0, (Int32.toNatClampNeg (48 : Int32))))) p0 1 (some (ySz (yuF w2 p0 0 (some (ySz w)))))) (Int32.toNatClampNeg (48 : Int32)) (.inr (0, (Int32.toNatClampNeg (48 : Int32))))) p0 2 (some (ySz (yuF (yuN (yuF w2 p0 0 (some (ySz w))) (Int32.toNatClampNeg (48 : Int32)) (.inr (0, (Int32.toNatClampNeg (48 : Int32))))) p0 1 (some (ySz (yuF w2 p0 0 (some (ySz w))))))))) (Int32.toNatClampNeg (48 : Int32)) (.inr (0, (Int32.toNatClampNeg (48 : Int32))))) p0 3 (some (ySz (yuF (yuN (yuF (yuN (yuF w2 p0 0 (some (ySz w))) (Int32.toNatClampNeg (48 : Int32)) (.inr (0, (Int32.toNatClampNeg (48 : Int32))))) p0 1 (some (ySz (yuF w2 p0 0 (some (ySz w)))))) (Int32.toNatClampNeg (48 : Int32)) (.inr (0, (Int32.toNatClampNeg (48 : Int32))))) p0 2 (some (ySz (yuF (yuN (yuF w2 p0 0 (some (ySz w))) (Int32.toNatClampNeg (48 : Int32)) (.inr (0, (Int32.toNatClampNeg (48 : Int32))))) p0 1 (some (ySz (yuF w2 p0 0 (some (ySz w)))))))))))) (Int32.toNatClampNeg (4 : Int32)) (.inr (4, (Int32.toNatClampNeg (4 : Int32))))) p0 = some (.inl 5)) ∧ (Nat.ble 1000 p0 = true) ∧ (yfix p0 = false) ∧ F (yuF (yuN (yuF (yuN (yuF (yuN (yuF (yuN (yuF w2 p0 0 (some (ySz w))) (Int32.toNatClampNeg (48 : Int32)) (.inr (0, (Int32.toNatClampNeg (48 : Int32))))) p0 1 (some (ySz (yuF w2 p0 0 (some (ySz w)))))) (Int32.toNatClampNeg (48 : Int32)) (.inr (0, (Int32.toNatClampNeg (48 : Int32))))) p0 2 (some (ySz (yuF (yuN (yuF w2 p0 0 (some (ySz w))) (Int32.toNatClampNeg (48 : Int32)) (.inr (0, (Int32.toNatClampNeg (48 : Int32))))) p0 1 (some (ySz (yuF w2 p0 0 (some (ySz w))))))))) (Int32.toNatClampNeg (48 : Int32)) (.inr (0, (Int32.toNatClampNeg (48 : Int32))))) p0 3 (some (ySz (yuF (yuN (yuF (yuN (yuF w2 p0 0 (some (ySz w))) (Int32.toNatClampNeg (48 : Int32)) (.inr (0, (Int32.toNatClampNeg (48 : Int32))))) p0 1 (some (ySz (yuF w2 p0 0 (some (ySz w)))))) (Int32.toNatClampNeg (48 : Int32)) (.inr (0, (Int32.toNatClampNeg (48 : Int32))))) p0 2 (some (ySz (yuF (yuN (yuF w2 p0 0 (some (ySz w))) (Int32.toNatClampNeg (48 : Int32)) (.inr (0, (Int32.toNatClampNeg (48 : Int32))))) p0 1 (some (ySz (yuF w2 p0 0 (some (ySz w)))))))))))) (Int32.toNatClampNeg (4 : Int32)) (.inr (4, (Int32.toNatClampNeg (4 : Int32))))) p0 4 (some (ySz (yuF (yuN (yuF (yuN (yuF (yuN (yuF w2 p0 0 (some (ySz w))) (Int32.toNatClampNeg (48 : Int32)) (.inr (0, (Int32.toNatClampNeg (48 : Int32))))) p0 1 (some (ySz (yuF w2 p0 0 (some (ySz w)))))) (Int32.toNatClampNeg (48 : Int32)) (.inr (0, (Int32.toNatClampNeg (48 : Int32))))) p0 2 (some (ySz (yuF (yuN (yuF w2 p0 0 (some (ySz w))) (Int32.toNatClampNeg (48 : Int32)) (.inr (0, (Int32.toNatClampNeg (48 : Int32))))) p0 1 (some (ySz (yuF w2 p0 0 (some (ySz w))))))))) (Int32.toNatClampNeg (48 : Int32)) (.inr (0, (Int32.toNatClampNeg (48 : Int32))))) p0 3 (some (ySz (yuF (yuN (yuF (yuN (yuF w2 p0 0 (some (ySz w))) (Int32.toNatClampNeg (48 : Int32)) (.inr (0, (Int32.toNatClampNeg (48 : Int32))))) p0 1 (some (ySz (yuF w2 p0 0 (some (ySz w)))))) (Int32.toNatClampNeg (48 : Int32)) (.inr (0, (Int32.toNatClampNeg (48 : Int32))))) p0 2 (some (ySz (yuF (yuN (yuF w2 p0 0 (some (ySz w))) (Int32.toNatClampNeg (48 : Int32)) (.inr (0, (Int32.toNatClampNeg (48 : Int32))))) p0 1 (some (ySz (yuF w2 p0 0 (some (ySz w))))))))))))))))) :
    zGo (d + 1) m_X5_init 0 [.ref p0] [] (yz w) (zKv F) := by
  refine g_s (pc' := 1) rfl ?_
  refine g_s (pc' := 4) rfl ?_
  refine g_s (pc' := 5) rfl ?_
  obtain ⟨hx1, H⟩ := H
  refine g_newc (pc' := 8) rfl rfl hx1 ?_
  refine g_s (pc' := 9) rfl ?_
  refine g_callv (a := m_X2_init) (as := [.ref (ySz w)]) (rest := [.ref (ySz w), .ref p0]) (ls0 := [.ref (ySz w)]) (pc' := 12) (t_spec rfl (Or.inr rfl) rfl rfl rfl rfl) rfl rfl rfl ?_
  refine zGo.mono H (zKv_mono ?_)
  intro w2 H
  obtain ⟨hk3, H⟩ := H
  obtain ⟨hb4, H⟩ := H
  obtain ⟨hx5, H⟩ := H
  refine g_putF (pc' := 15) rfl rfl hk3 rfl hb4 hx5 rfl (fun _ => rfl) ?_
  refine g_s (pc' := 16) rfl ?_
  refine g_psh (pc' := 18) (v' := .int 48) rfl (congrArg Value.int kc_b48) ?_
  obtain ⟨hx6, H⟩ := H
  refine g_newa (pc' := 20) rfl rfl rfl (Or.inl rfl) hx6 (by decide) (by decide) ?_
  obtain ⟨hk7, H⟩ := H
  obtain ⟨hb8, H⟩ := H
  obtain ⟨hx9, H⟩ := H
  refine g_putF (pc' := 23) rfl rfl hk7 rfl hb8 hx9 rfl (fun _ => rfl) ?_
  refine g_s (pc' := 24) rfl ?_
  refine g_psh (pc' := 26) (v' := .int 48) rfl (congrArg Value.int kc_b48) ?_
  obtain ⟨hx10, H⟩ := H
  refine g_newa (pc' := 28) rfl rfl rfl (Or.inl rfl) hx10 (by decide) (by decide) ?_
  obtain ⟨hk11, H⟩ := H
  obtain ⟨hb12, H⟩ := H
  obtain ⟨hx13, H⟩ := H
  refine g_putF (pc' := 31) rfl rfl hk11 rfl hb12 hx13 rfl (fun _ => rfl) ?_
  refine g_s (pc' := 32) rfl ?_
  refine g_psh (pc' := 34) (v' := .int 48) rfl (congrArg Value.int kc_b48) ?_
  obtain ⟨hx14, H⟩ := H
  refine g_newa (pc' := 36) rfl rfl rfl (Or.inl rfl) hx14 (by decide) (by decide) ?_
  obtain ⟨hk15, H⟩ := H
  obtain ⟨hb16, H⟩ := H
  obtain ⟨hx17, H⟩ := H
  refine g_putF (pc' := 39) rfl rfl hk15 rfl hb16 hx17 rfl (fun _ => rfl) ?_
  refine g_s (pc' := 40) rfl ?_
  refine g_psh (pc' := 41) (v' := .int 4) rfl (congrArg Value.int kc_i4) ?_
  obtain ⟨hx18, H⟩ := H
  refine g_newq (pc' := 44) rfl rfl (Or.inr rfl) hx18 (by decide) (by decide) ?_
  obtain ⟨hk19, H⟩ := H
  obtain ⟨hb20, H⟩ := H
  obtain ⟨hx21, H⟩ := H
  refine g_putF (pc' := 47) rfl rfl hk19 rfl hb20 hx21 rfl (fun _ => rfl) ?_
  exact g_retv rfl rfl H
set_option maxHeartbeats 4000000 in
theorem B_X5_noteCut_0 {d : Nat} {w : zm} {F : zm → Prop} (p0 : Nat) (a1 : Int32)
    (H : ((a1 < 0 → F w) ∧ (¬ a1 < 0 → ((a1 < (48 : Int32) → (yT w p0) ∧ (zin a1 48) ∧ (zin a1 48) ∧ (zin a1 48) ∧ F (yuA (yuA w (p0 + 7) (Int32.toNatClampNeg a1) ((yA w (p0 + 7) (Int32.toNatClampNeg a1)) + (1 : Int32))) (p0 + 6) (Int32.toNatClampNeg a1) (0 : Int32))) ∧ (¬ a1 < (48 : Int32) → F w))))) :
    zGo d m_X5_noteCut 0 [.ref p0, .int a1] [] (yz w) (zKv F) := by
  refine g_s (pc' := 1) rfl ?_
  refine g_iflt (pc' := 4) rfl rfl (fun hc => ?_) (fun hc => ?_)
  · replace H := H.1 hc
    exact g_retv rfl rfl H
  · replace H := H.2 hc
    refine g_s (pc' := 5) rfl ?_
    refine g_psh (pc' := 7) (v' := .int 48) rfl (congrArg Value.int kc_b48) ?_
    refine g_icge (pc' := 10) rfl rfl (fun hc => ?_) (fun hc => ?_)
    · replace H := H.1 hc
      refine g_s (pc' := 11) rfl ?_
      obtain ⟨hs1, H⟩ := H
      refine g_getf (pc' := 14) (v := .ref (p0 + 7)) rfl rfl (yT_k hs1) rfl (congrArg va_rf (yT_r2 hs1)) ?_
      refine g_s (pc' := 15) rfl ?_
      refine g_s (pc' := 16) rfl ?_
      obtain ⟨hi2, H⟩ := H
      refine g_iald (pc' := 17) rfl rfl rfl rfl (yT_k2 hs1) (Or.inl rfl) hi2 ?_
      refine g_psh (pc' := 18) (v' := .int 1) rfl (congrArg Value.int kc_i1) ?_
      refine g_s (pc' := 19) (st' := [.int ((yA w (p0 + 7) (Int32.toNatClampNeg a1)) + (1 : Int32)), .int a1, .ref (p0 + 7)]) rfl ?_
      obtain ⟨hi3, H⟩ := H
      refine g_iast (pc' := 20) rfl rfl rfl rfl (yT_k2 hs1) (yT_b2 hs1) hi3 ?_
      refine g_s (pc' := 21) rfl ?_
      refine g_getf (pc' := 24) (v := .ref (p0 + 6)) rfl rfl (yT_k hs1) rfl (congrArg va_rf (yT_r1 hs1)) ?_
      refine g_s (pc' := 25) rfl ?_
      refine g_psh (pc' := 26) (v' := .int 0) rfl (congrArg Value.int kc_i0) ?_
      obtain ⟨hi4, H⟩ := H
      refine g_iast (pc' := 27) rfl rfl rfl rfl (yT_k1 hs1) (yT_b1 hs1) hi4 ?_
      exact g_retv rfl rfl H
    · replace H := H.2 hc
      exact g_retv rfl rfl H
set_option maxHeartbeats 4000000 in
theorem B_X5_wantsBridge_0 {d : Nat} {w : zm} {F : Int32 → zm → Prop} (p0 : Nat) (a1 : Int32) (a2 : Int32)
    (H : ((a1 < 0 → F (0 : Int32) w) ∧ (¬ a1 < 0 → ((a1 < (48 : Int32) → (yT w p0) ∧ (zin a1 48) ∧ (((yA w (p0 + 6) (Int32.toNatClampNeg a1)) < a2 → F (0 : Int32) w) ∧ (¬ (yA w (p0 + 6) (Int32.toNatClampNeg a1)) < a2 → (zin a1 48) ∧ (((yA w (p0 + 7) (Int32.toNatClampNeg a1)) < (3 : Int32) → (((yI w p0 6) < (4 : Int32) → F (1 : Int32) w) ∧ (¬ (yI w p0 6) < (4 : Int32) → F (0 : Int32) w))) ∧ (¬ (yA w (p0 + 7) (Int32.toNatClampNeg a1)) < (3 : Int32) → F (0 : Int32) w))))) ∧ (¬ a1 < (48 : Int32) → F (0 : Int32) w))))) :
    zGo d m_X5_wantsBridge 0 [.ref p0, .int a1, .int a2] [] (yz w) (zKi F) := by
  refine g_s (pc' := 1) rfl ?_
  refine g_iflt (pc' := 4) rfl rfl (fun hc => ?_) (fun hc => ?_)
  · replace H := H.1 hc
    refine g_psh (pc' := 43) (v' := .int 0) rfl (congrArg Value.int kc_i0) ?_
    exact g_reti rfl (zbool _ (Or.inl rfl)) H
  · replace H := H.2 hc
    refine g_s (pc' := 5) rfl ?_
    refine g_psh (pc' := 7) (v' := .int 48) rfl (congrArg Value.int kc_b48) ?_
    refine g_icge (pc' := 10) rfl rfl (fun hc => ?_) (fun hc => ?_)
    · replace H := H.1 hc
      refine g_s (pc' := 11) rfl ?_
      obtain ⟨hs1, H⟩ := H
      refine g_getf (pc' := 14) (v := .ref (p0 + 6)) rfl rfl (yT_k hs1) rfl (congrArg va_rf (yT_r1 hs1)) ?_
      refine g_s (pc' := 15) rfl ?_
      obtain ⟨hi2, H⟩ := H
      refine g_iald (pc' := 16) rfl rfl rfl rfl (yT_k1 hs1) (Or.inl rfl) hi2 ?_
      refine g_s (pc' := 17) rfl ?_
      refine g_iclt (pc' := 20) rfl rfl (fun hc => ?_) (fun hc => ?_)
      · replace H := H.1 hc
        refine g_psh (pc' := 43) (v' := .int 0) rfl (congrArg Value.int kc_i0) ?_
        exact g_reti rfl (zbool _ (Or.inl rfl)) H
      · replace H := H.2 hc
        refine g_s (pc' := 21) rfl ?_
        refine g_getf (pc' := 24) (v := .ref (p0 + 7)) rfl rfl (yT_k hs1) rfl (congrArg va_rf (yT_r2 hs1)) ?_
        refine g_s (pc' := 25) rfl ?_
        obtain ⟨hi3, H⟩ := H
        refine g_iald (pc' := 26) rfl rfl rfl rfl (yT_k2 hs1) (Or.inl rfl) hi3 ?_
        refine g_psh (pc' := 27) (v' := .int 3) rfl (congrArg Value.int kc_i3) ?_
        refine g_icge (pc' := 30) rfl rfl (fun hc => ?_) (fun hc => ?_)
        · replace H := H.1 hc
          refine g_s (pc' := 31) rfl ?_
          refine g_getf (pc' := 34) (v := .int (yI w p0 6)) rfl rfl (yT_k hs1) rfl rfl ?_
          refine g_psh (pc' := 35) (v' := .int 4) rfl (congrArg Value.int kc_i4) ?_
          refine g_icge (pc' := 38) rfl rfl (fun hc => ?_) (fun hc => ?_)
          · replace H := H.1 hc
            refine g_psh (pc' := 39) (v' := .int 1) rfl (congrArg Value.int kc_i1) ?_
            refine g_s (pc' := 43) rfl ?_
            exact g_reti rfl (zbool _ (Or.inr rfl)) H
          · replace H := H.2 hc
            refine g_psh (pc' := 43) (v' := .int 0) rfl (congrArg Value.int kc_i0) ?_
            exact g_reti rfl (zbool _ (Or.inl rfl)) H
        · replace H := H.2 hc
          refine g_psh (pc' := 43) (v' := .int 0) rfl (congrArg Value.int kc_i0) ?_
          exact g_reti rfl (zbool _ (Or.inl rfl)) H
    · replace H := H.2 hc
      refine g_psh (pc' := 43) (v' := .int 0) rfl (congrArg Value.int kc_i0) ?_
      exact g_reti rfl (zbool _ (Or.inl rfl)) H
set_option maxHeartbeats 4000000 in
theorem B_X6_add_0 {d : Nat} {w : zm} {F : zm → Prop} (a1 : Int32)
    (H : ((a1 < 0 → F w) ∧ (¬ a1 < 0 → ((a1 < (200 : Int32) → (zin a1 200) ∧ (∀ o2, (yQ w 1023 (Int32.toNatClampNeg a1)) = o2 → ((o2 = none → (((yI w 1022 3) < (16 : Int32) → zGo d m_X6_spare 0 [.ref 1022] [] (yz w) (zKr fun o5 w4 => ((o5 = none → (yfix (ySz w4) = false) ∧ zGo d m_X5_init 0 [.ref (ySz w4)] [] (yz (yuN w4 9 (.inl 5))) (zKv fun w8 => zGo (d + 1) m_X6_add 47 [.ref 1022, .int a1, .ref 1026, .ref (ySz w4)] [] (yz w8) (zKv F))) ∧ (∀ q6, o5 = some q6 → zGo (d + 1) m_X6_add 47 [.ref 1022, .int a1, .ref 1026, .ref q6] [] (yz w4) (zKv F))))) ∧ (¬ (yI w 1022 3) < (16 : Int32) → F w))) ∧ (∀ q3, o2 = some q3 → F w)))) ∧ (¬ a1 < (200 : Int32) → F w))))) :
    zGo (d + 1) m_X6_add 0 [.ref 1022, .int a1, .ref 1026, zJ] [] (yz w) (zKv F) := by
  refine g_s (pc' := 1) rfl ?_
  refine g_iflt (pc' := 4) rfl rfl (fun hc => ?_) (fun hc => ?_)
  · replace H := H.1 hc
    exact g_retv rfl rfl H
  · replace H := H.2 hc
    refine g_s (pc' := 5) rfl ?_
    refine g_psh (pc' := 8) (v' := .int 200) rfl (congrArg Value.int kc_s200) ?_
    refine g_icge (pc' := 11) rfl rfl (fun hc => ?_) (fun hc => ?_)
    · replace H := H.1 hc
      refine g_s (pc' := 12) rfl ?_
      refine g_getf (pc' := 15) (v := .ref 1023) rfl rfl rfl rfl rfl ?_
      refine g_s (pc' := 16) rfl ?_
      obtain ⟨hi1, H⟩ := H
      refine g_aald (pc' := 17) rfl rfl rfl rfl rfl (Or.inl rfl) hi1 (fun o2 ho => ?_)
      replace H := H o2 ho
      cases o2 with
      | none =>
        refine g_ifnonnull (pc' := 20) (o := none) rfl rfl (fun _ => ?_) (fun q h9 => by cases h9)
        replace H := H.1 rfl
        refine g_s (pc' := 21) rfl ?_
        refine g_getf (pc' := 24) (v := .int (yI w 1022 3)) rfl rfl rfl rfl rfl ?_
        refine g_psh (pc' := 26) (v' := .int 16) rfl (congrArg Value.int kc_b16) ?_
        refine g_iclt (pc' := 29) rfl rfl (fun hc => ?_) (fun hc => ?_)
        · replace H := H.1 hc
          refine g_s (pc' := 31) rfl ?_
          refine g_callr (a := m_X6_spare) (as := [.ref 1022]) (rest := []) (ls0 := [.ref 1022]) (pc' := 34) (t_virt rfl rfl rfl rfl rfl rfl) rfl rfl rfl ?_
          refine zGo.mono H (zKr_mono ?_)
          intro o5 w4 H
          refine g_ast (k := 3) (pc' := 35) (o := o5) (ls' := [.ref 1022, .int a1, .ref 1026, va_rf o5]) rfl rfl rfl rfl (zst1_of rfl (Or.inr rfl) rfl) ?_
          refine g_aldo (k := 3) (pc' := 36) (o := o5) rfl rfl rfl rfl rfl ?_
          cases o5 with
          | none =>
            refine g_ifnonnull (pc' := 39) (o := none) rfl rfl (fun _ => ?_) (fun q h9 => by cases h9)
            replace H := H.1 rfl
            obtain ⟨hx7, H⟩ := H
            refine g_newc (pc' := 42) rfl rfl hx7 ?_
            refine g_s (pc' := 43) rfl ?_
            refine g_callv (a := m_X5_init) (as := [.ref (ySz w4)]) (rest := [.ref (ySz w4)]) (ls0 := [.ref (ySz w4)]) (pc' := 46) (t_spec rfl (Or.inr rfl) rfl rfl rfl rfl) rfl rfl rfl ?_
            refine zGo.mono H (zKv_mono ?_)
            intro w8 H
            refine g_ast (k := 3) (pc' := 47) (o := (some (ySz w4))) (ls' := [.ref 1022, .int a1, .ref 1026, .ref (ySz w4)]) rfl rfl rfl rfl (zst1_of rfl (Or.inr rfl) rfl) ?_
            exact H
          | some q6 =>
            refine g_ifnonnull (pc' := 39) (o := some q6) rfl rfl (fun h9 => by cases h9) (fun _ _ => ?_)
            replace H := H.2 q6 rfl
            exact H
        · replace H := H.2 hc
          exact g_retv rfl rfl H
      | some q3 =>
        refine g_ifnonnull (pc' := 20) (o := some q3) rfl rfl (fun h9 => by cases h9) (fun _ _ => ?_)
        replace H := H.2 q3 rfl
        exact g_retv rfl rfl H
    · replace H := H.2 hc
      exact g_retv rfl rfl H
set_option maxHeartbeats 4000000 in
theorem B_X6_add_47 {d : Nat} {w : zm} {F : zm → Prop} (a1 : Int32) (p3 : Nat)
    (H : (yT w p3) ∧ zGo d m_X5_begin 0 [.ref p3, .int a1, .ref 1026] [] (yz w) (zKv fun w2 => (zin a1 200) ∧ (yT w2 p3) ∧ F (yuI (yuQ w2 1023 (Int32.toNatClampNeg a1) (some p3)) 1022 3 ((yI w2 1022 3) + (1 : Int32))))) :
    zGo (d + 1) m_X6_add 47 [.ref 1022, .int a1, .ref 1026, .ref p3] [] (yz w) (zKv F) := by
  refine g_s (pc' := 48) rfl ?_
  refine g_s (pc' := 49) rfl ?_
  refine g_s (pc' := 50) rfl ?_
  obtain ⟨hs1, H⟩ := H
  refine g_callv (a := m_X5_begin) (as := [.ref p3, .int a1, .ref 1026]) (rest := []) (ls0 := [.ref p3, .int a1, .ref 1026]) (pc' := 53) (t_virt rfl rfl rfl rfl rfl (yT_k hs1)) rfl rfl rfl ?_
  refine zGo.mono H (zKv_mono ?_)
  intro w2 H
  refine g_s (pc' := 54) rfl ?_
  refine g_getf (pc' := 57) (v := .ref 1023) rfl rfl rfl rfl rfl ?_
  refine g_s (pc' := 58) rfl ?_
  refine g_s (pc' := 59) rfl ?_
  obtain ⟨hi3, H⟩ := H
  obtain ⟨hs4, H⟩ := H
  refine g_aast (pc' := 60) rfl rfl rfl rfl rfl (Or.inl rfl) (yT_k hs4) rfl rfl hi3 ?_
  refine g_s (pc' := 61) rfl ?_
  refine g_s (pc' := 62) rfl ?_
  refine g_getf (pc' := 65) (v := .int (yI w2 1022 3)) rfl rfl rfl rfl rfl ?_
  refine g_psh (pc' := 66) (v' := .int 1) rfl (congrArg Value.int kc_i1) ?_
  refine g_s (pc' := 67) (st' := [.int ((yI w2 1022 3) + (1 : Int32)), .ref 1022]) rfl ?_
  refine g_putI (pc' := 70) rfl rfl rfl rfl rfl rfl (fun _ => rfl) ?_
  exact g_retv rfl rfl H
set_option maxHeartbeats 4000000 in
theorem B_X6_addressOf_0 {d : Nat} {w : zm} {F : Int32 → zm → Prop} (a1 : Int32)
    (H : zGo d m_X6_addressOf 4 [.ref 1022, .int a1, .int (0 : Int32), .int (0 : Int32)] [] (yz w) (zKi F)) :
    zGo d m_X6_addressOf 0 [.ref 1022, .int a1, zJ, zJ] [] (yz w) (zKi F) := by
  refine g_psh (pc' := 1) (v' := .int 0) rfl (congrArg Value.int kc_i0) ?_
  refine g_ist (k := 2) (pc' := 2) (ls' := [.ref 1022, .int a1, .int (0 : Int32), zJ]) rfl rfl rfl rfl (zst1_of rfl (Or.inr rfl) rfl) ?_
  refine g_psh (pc' := 3) (v' := .int 0) rfl (congrArg Value.int kc_i0) ?_
  refine g_ist (k := 3) (pc' := 4) (ls' := [.ref 1022, .int a1, .int (0 : Int32), .int (0 : Int32)]) rfl rfl rfl rfl (zst1_of rfl (Or.inr rfl) rfl) ?_
  exact H
set_option maxHeartbeats 4000000 in
theorem B_X6_addressOf_4 {d : Nat} {w : zm} {F : Int32 → zm → Prop} (a1 : Int32) (a2 : Int32) (a3 : Int32)
    (H : ((a3 < (200 : Int32) → (zin a3 200) ∧ (∀ o2, (yQ w 1023 (Int32.toNatClampNeg a3)) = o2 → ((o2 = none → zGo d m_X6_addressOf 4 [.ref 1022, .int a1, .int a2, .int (a3 + 1)] [] (yz w) (zKi F)) ∧ (∀ q3, o2 = some q3 → ((a2 = a1 → F a3 w) ∧ (¬ a2 = a1 → zGo d m_X6_addressOf 4 [.ref 1022, .int a1, .int (a2 + 1), .int (a3 + 1)] [] (yz w) (zKi F))))))) ∧ (¬ a3 < (200 : Int32) → F (-1 : Int32) w))) :
    zGo d m_X6_addressOf 4 [.ref 1022, .int a1, .int a2, .int a3] [] (yz w) (zKi F) := by
  refine g_s (pc' := 5) rfl ?_
  refine g_psh (pc' := 8) (v' := .int 200) rfl (congrArg Value.int kc_s200) ?_
  refine g_icge (pc' := 11) rfl rfl (fun hc => ?_) (fun hc => ?_)
  · replace H := H.1 hc
    refine g_s (pc' := 12) rfl ?_
    refine g_getf (pc' := 15) (v := .ref 1023) rfl rfl rfl rfl rfl ?_
    refine g_s (pc' := 16) rfl ?_
    obtain ⟨hi1, H⟩ := H
    refine g_aald (pc' := 17) rfl rfl rfl rfl rfl (Or.inl rfl) hi1 (fun o2 ho => ?_)
    replace H := H o2 ho
    cases o2 with
    | none =>
      refine g_ifnull (pc' := 20) (o := none) rfl rfl (fun _ => ?_) (fun q h9 => by cases h9)
      replace H := H.1 rfl
      refine g_inc (pc' := 33) (ls' := [.ref 1022, .int a1, .int a2, .int (a3 + 1)]) rfl rfl rfl kc_i1 (zst1_of rfl (Or.inr rfl) rfl) ?_
      refine g_s (pc' := 4) rfl ?_
      exact H
    | some q3 =>
      refine g_ifnull (pc' := 20) (o := some q3) rfl rfl (fun h9 => by cases h9) (fun _ _ => ?_)
      replace H := H.2 q3 rfl
      refine g_s (pc' := 21) rfl ?_
      refine g_s (pc' := 22) rfl ?_
      refine g_icne (pc' := 25) rfl rfl (fun hc => ?_) (fun hc => ?_)
      · replace H := H.1 hc
        refine g_s (pc' := 26) rfl ?_
        exact g_reti rfl rfl H
      · replace H := H.2 hc
        refine g_inc (pc' := 30) (ls' := [.ref 1022, .int a1, .int (a2 + 1), .int a3]) rfl rfl rfl kc_i1 (zst1_of rfl (Or.inr rfl) rfl) ?_
        refine g_inc (pc' := 33) (ls' := [.ref 1022, .int a1, .int (a2 + 1), .int (a3 + 1)]) rfl rfl rfl kc_i1 (zst1_of rfl (Or.inr rfl) rfl) ?_
        refine g_s (pc' := 4) rfl ?_
        exact H
  · replace H := H.2 hc
    refine g_psh (pc' := 37) (v' := .int (-1)) rfl (congrArg Value.int kc_im1) ?_
    exact g_reti rfl rfl H
set_option maxHeartbeats 4000000 in
theorem B_X6_clear_0 {d : Nat} {w : zm} {F : zm → Prop} 
    (H : zGo (d + 1) m_X6_clear 2 [.ref 1022, .int (0 : Int32)] [] (yz w) (zKv F)) :
    zGo (d + 1) m_X6_clear 0 [.ref 1022, zJ] [] (yz w) (zKv F) := by
  refine g_psh (pc' := 1) (v' := .int 0) rfl (congrArg Value.int kc_i0) ?_
  refine g_ist (k := 1) (pc' := 2) (ls' := [.ref 1022, .int (0 : Int32)]) rfl rfl rfl rfl (zst1_of rfl (Or.inr rfl) rfl) ?_
  exact H
set_option maxHeartbeats 4000000 in
theorem B_X6_clear_2 {d : Nat} {w : zm} {F : zm → Prop} (a1 : Int32)
    (H : ((a1 < (200 : Int32) → zGo d m_X6_remove 0 [.ref 1022, .int a1] [] (yz w) (zKi fun v2 w1 => zGo (d + 1) m_X6_clear 2 [.ref 1022, .int (a1 + 1)] [] (yz w1) (zKv F))) ∧ (¬ a1 < (200 : Int32) → F w))) :
    zGo (d + 1) m_X6_clear 2 [.ref 1022, .int a1] [] (yz w) (zKv F) := by
  refine g_s (pc' := 3) rfl ?_
  refine g_psh (pc' := 6) (v' := .int 200) rfl (congrArg Value.int kc_s200) ?_
  refine g_icge (pc' := 9) rfl rfl (fun hc => ?_) (fun hc => ?_)
  · replace H := H.1 hc
    refine g_s (pc' := 10) rfl ?_
    refine g_s (pc' := 11) rfl ?_
    refine g_calli (a := m_X6_remove) (as := [.ref 1022, .int a1]) (rest := []) (ls0 := [.ref 1022, .int a1]) (pc' := 14) (t_virt rfl rfl rfl rfl rfl rfl) rfl rfl rfl ?_
    refine zGo.mono H (zKi_mono ?_)
    intro v2 w1 H
    refine g_s (pc' := 15) rfl ?_
    refine g_inc (pc' := 18) (ls' := [.ref 1022, .int (a1 + 1)]) rfl rfl rfl kc_i1 (zst1_of rfl (Or.inr rfl) rfl) ?_
    refine g_s (pc' := 2) rfl ?_
    exact H
  · replace H := H.2 hc
    exact g_retv rfl rfl H
set_option maxHeartbeats 4000000 in
theorem B_X6_find_0 {d : Nat} {w : zm} {F : Option Nat → zm → Prop} (a1 : Int32)
    (H : ((a1 < 0 → F none w) ∧ (¬ a1 < 0 → ((a1 < (200 : Int32) → (zin a1 200) ∧ (∀ o2, (yQ w 1023 (Int32.toNatClampNeg a1)) = o2 → F o2 w)) ∧ (¬ a1 < (200 : Int32) → F none w))))) :
    zGo d m_X6_find 0 [.ref 1022, .int a1] [] (yz w) (zKr F) := by
  refine g_s (pc' := 1) rfl ?_
  refine g_iflt (pc' := 4) rfl rfl (fun hc => ?_) (fun hc => ?_)
  · replace H := H.1 hc
    refine g_s (pc' := 21) rfl ?_
    exact g_retr (x := none) rfl (zfitr _ rfl) H
  · replace H := H.2 hc
    refine g_s (pc' := 5) rfl ?_
    refine g_psh (pc' := 8) (v' := .int 200) rfl (congrArg Value.int kc_s200) ?_
    refine g_icge (pc' := 11) rfl rfl (fun hc => ?_) (fun hc => ?_)
    · replace H := H.1 hc
      refine g_s (pc' := 12) rfl ?_
      refine g_getf (pc' := 15) (v := .ref 1023) rfl rfl rfl rfl rfl ?_
      refine g_s (pc' := 16) rfl ?_
      obtain ⟨hi1, H⟩ := H
      refine g_aald (pc' := 17) rfl rfl rfl rfl rfl (Or.inl rfl) hi1 (fun o2 ho => ?_)
      replace H := H o2 ho
      refine g_s (pc' := 21) rfl ?_
      exact g_retr (x := o2) rfl (zfitr _ rfl) H
    · replace H := H.2 hc
      refine g_s (pc' := 21) rfl ?_
      exact g_retr (x := none) rfl (zfitr _ rfl) H
set_option maxHeartbeats 4000000 in
theorem B_X6_remove_0 {d : Nat} {w : zm} {F : Int32 → zm → Prop} (a1 : Int32)
    (H : ((a1 < 0 → F (0 : Int32) w) ∧ (¬ a1 < 0 → ((a1 < (200 : Int32) → (zin a1 200) ∧ (∀ o2, (yQ w 1023 (Int32.toNatClampNeg a1)) = o2 → ((o2 = none → F (0 : Int32) w) ∧ (∀ q3, o2 = some q3 → (((yI w 1022 2) < 0 → zGo d m_X6_remove 63 [.ref 1022, .int a1] [] (yz w) (zKi F)) ∧ (¬ (yI w 1022 2) < 0 → (((yI w 1022 2) < (16 : Int32) → (zin a1 200) ∧ (∀ o5, (yQ w 1023 (Int32.toNatClampNeg a1)) = o5 → (zin (yI w 1022 2) 16) ∧ ∃ q7, (o5 = some q7) ∧ (yT w q7) ∧ zGo d m_X6_remove 63 [.ref 1022, .int a1] [] (yz (yuI (yuQ w 1024 (Int32.toNatClampNeg (yI w 1022 2)) (some q7)) 1022 2 ((yI w 1022 2) + (1 : Int32)))) (zKi F))) ∧ (¬ (yI w 1022 2) < (16 : Int32) → zGo d m_X6_remove 63 [.ref 1022, .int a1] [] (yz w) (zKi F))))))))) ∧ (¬ a1 < (200 : Int32) → F (0 : Int32) w))))) :
    zGo d m_X6_remove 0 [.ref 1022, .int a1] [] (yz w) (zKi F) := by
  refine g_s (pc' := 1) rfl ?_
  refine g_iflt (pc' := 4) rfl rfl (fun hc => ?_) (fun hc => ?_)
  · replace H := H.1 hc
    refine g_psh (pc' := 21) (v' := .int 0) rfl (congrArg Value.int kc_i0) ?_
    exact g_reti rfl (zbool _ (Or.inl rfl)) H
  · replace H := H.2 hc
    refine g_s (pc' := 5) rfl ?_
    refine g_psh (pc' := 8) (v' := .int 200) rfl (congrArg Value.int kc_s200) ?_
    refine g_icge (pc' := 11) rfl rfl (fun hc => ?_) (fun hc => ?_)
    · replace H := H.1 hc
      refine g_s (pc' := 12) rfl ?_
      refine g_getf (pc' := 15) (v := .ref 1023) rfl rfl rfl rfl rfl ?_
      refine g_s (pc' := 16) rfl ?_
      obtain ⟨hi1, H⟩ := H
      refine g_aald (pc' := 17) rfl rfl rfl rfl rfl (Or.inl rfl) hi1 (fun o2 ho => ?_)
      replace H := H o2 ho
      cases o2 with
      | none =>
        refine g_ifnonnull (pc' := 20) (o := none) rfl rfl (fun _ => ?_) (fun q h9 => by cases h9)
        replace H := H.1 rfl
        refine g_psh (pc' := 21) (v' := .int 0) rfl (congrArg Value.int kc_i0) ?_
        exact g_reti rfl (zbool _ (Or.inl rfl)) H
      | some q3 =>
        refine g_ifnonnull (pc' := 20) (o := some q3) rfl rfl (fun h9 => by cases h9) (fun _ _ => ?_)
        replace H := H.2 q3 rfl
        refine g_s (pc' := 23) rfl ?_
        refine g_getf (pc' := 26) (v := .int (yI w 1022 2)) rfl rfl rfl rfl rfl ?_
        refine g_iflt (pc' := 29) rfl rfl (fun hc => ?_) (fun hc => ?_)
        · replace H := H.1 hc
          exact H
        · replace H := H.2 hc
          refine g_s (pc' := 30) rfl ?_
          refine g_getf (pc' := 33) (v := .int (yI w 1022 2)) rfl rfl rfl rfl rfl ?_
          refine g_psh (pc' := 35) (v' := .int 16) rfl (congrArg Value.int kc_b16) ?_
          refine g_icge (pc' := 38) rfl rfl (fun hc => ?_) (fun hc => ?_)
          · replace H := H.1 hc
            refine g_s (pc' := 39) rfl ?_
            refine g_getf (pc' := 42) (v := .ref 1024) rfl rfl rfl rfl rfl ?_
            refine g_s (pc' := 43) rfl ?_
            refine g_getf (pc' := 46) (v := .int (yI w 1022 2)) rfl rfl rfl rfl rfl ?_
            refine g_s (pc' := 47) rfl ?_
            refine g_getf (pc' := 50) (v := .ref 1023) rfl rfl rfl rfl rfl ?_
            refine g_s (pc' := 51) rfl ?_
            obtain ⟨hi4, H⟩ := H
            refine g_aald (pc' := 52) rfl rfl rfl rfl rfl (Or.inl rfl) hi4 (fun o5 ho => ?_)
            replace H := H o5 ho
            obtain ⟨hi6, H⟩ := H
            obtain ⟨q7, hq8, H⟩ := H
            subst hq8
            obtain ⟨hs9, H⟩ := H
            refine g_aast (pc' := 53) rfl rfl rfl rfl rfl (Or.inl rfl) (yT_k hs9) rfl rfl hi6 ?_
            refine g_s (pc' := 54) rfl ?_
            refine g_s (pc' := 55) rfl ?_
            refine g_getf (pc' := 58) (v := .int (yI w 1022 2)) rfl rfl rfl rfl rfl ?_
            refine g_psh (pc' := 59) (v' := .int 1) rfl (congrArg Value.int kc_i1) ?_
            refine g_s (pc' := 60) (st' := [.int ((yI w 1022 2) + (1 : Int32)), .ref 1022]) rfl ?_
            refine g_putI (pc' := 63) rfl rfl rfl rfl rfl rfl (fun _ => rfl) ?_
            exact H
          · replace H := H.2 hc
            exact H
    · replace H := H.2 hc
      refine g_psh (pc' := 21) (v' := .int 0) rfl (congrArg Value.int kc_i0) ?_
      exact g_reti rfl (zbool _ (Or.inl rfl)) H
set_option maxHeartbeats 4000000 in
theorem B_X6_remove_63 {d : Nat} {w : zm} {F : Int32 → zm → Prop} (a1 : Int32)
    (H : (zin a1 200) ∧ F (1 : Int32) (yuI (yuQ w 1023 (Int32.toNatClampNeg a1) none) 1022 3 ((yI w 1022 3) - (1 : Int32)))) :
    zGo d m_X6_remove 63 [.ref 1022, .int a1] [] (yz w) (zKi F) := by
  refine g_s (pc' := 64) rfl ?_
  refine g_getf (pc' := 67) (v := .ref 1023) rfl rfl rfl rfl rfl ?_
  refine g_s (pc' := 68) rfl ?_
  refine g_s (pc' := 69) rfl ?_
  obtain ⟨hi1, H⟩ := H
  refine g_aastn (pc' := 70) rfl rfl rfl rfl rfl (Or.inl rfl) rfl hi1 ?_
  refine g_s (pc' := 71) rfl ?_
  refine g_s (pc' := 72) rfl ?_
  refine g_getf (pc' := 75) (v := .int (yI w 1022 3)) rfl rfl rfl rfl rfl ?_
  refine g_psh (pc' := 76) (v' := .int 1) rfl (congrArg Value.int kc_i1) ?_
  refine g_s (pc' := 77) (st' := [.int ((yI w 1022 3) - (1 : Int32)), .ref 1022]) rfl ?_
  refine g_putI (pc' := 80) rfl rfl rfl rfl rfl rfl (fun _ => rfl) ?_
  refine g_psh (pc' := 81) (v' := .int 1) rfl (congrArg Value.int kc_i1) ?_
  exact g_reti rfl (zbool _ (Or.inr rfl)) H
set_option maxHeartbeats 4000000 in
theorem B_X6_spare_0 {d : Nat} {w : zm} {F : Option Nat → zm → Prop} 
    (H : ((0 < (yI w 1022 2) → (((16 : Int32) < (yI w 1022 2) → F none w) ∧ (¬ (16 : Int32) < (yI w 1022 2) → (zin ((yI w 1022 2) - (1 : Int32)) 16) ∧ (∀ o2, (yQ w 1024 (Int32.toNatClampNeg ((yI w 1022 2) - (1 : Int32)))) = o2 → F o2 (yuI w 1022 2 ((yI w 1022 2) - (1 : Int32))))))) ∧ (¬ 0 < (yI w 1022 2) → F none w))) :
    zGo d m_X6_spare 0 [.ref 1022] [] (yz w) (zKr F) := by
  refine g_s (pc' := 1) rfl ?_
  refine g_getf (pc' := 4) (v := .int (yI w 1022 2)) rfl rfl rfl rfl rfl ?_
  refine g_ifle (pc' := 7) rfl rfl (fun hc => ?_) (fun hc => ?_)
  · replace H := H.1 hc
    refine g_s (pc' := 8) rfl ?_
    refine g_getf (pc' := 11) (v := .int (yI w 1022 2)) rfl rfl rfl rfl rfl ?_
    refine g_psh (pc' := 13) (v' := .int 16) rfl (congrArg Value.int kc_b16) ?_
    refine g_icle (pc' := 16) rfl rfl (fun hc => ?_) (fun hc => ?_)
    · replace H := H.1 hc
      refine g_s (pc' := 17) rfl ?_
      exact g_retr (x := none) rfl (zfitr _ rfl) H
    · replace H := H.2 hc
      refine g_s (pc' := 19) rfl ?_
      refine g_s (pc' := 20) rfl ?_
      refine g_getf (pc' := 23) (v := .int (yI w 1022 2)) rfl rfl rfl rfl rfl ?_
      refine g_psh (pc' := 24) (v' := .int 1) rfl (congrArg Value.int kc_i1) ?_
      refine g_s (pc' := 25) (st' := [.int ((yI w 1022 2) - (1 : Int32)), .ref 1022]) rfl ?_
      refine g_putI (pc' := 28) rfl rfl rfl rfl rfl rfl (fun _ => rfl) ?_
      refine g_s (pc' := 29) rfl ?_
      refine g_getf (pc' := 32) (v := .ref 1024) rfl rfl rfl rfl rfl ?_
      refine g_s (pc' := 33) rfl ?_
      refine g_getf (pc' := 36) (v := .int ((yI w 1022 2) - (1 : Int32))) rfl rfl rfl rfl rfl ?_
      obtain ⟨hi1, H⟩ := H
      refine g_aald (pc' := 37) rfl rfl rfl rfl rfl (Or.inl rfl) hi1 (fun o2 ho => ?_)
      replace H := H o2 ho
      exact g_retr (x := o2) rfl (zfitr _ rfl) H
  · replace H := H.2 hc
    refine g_s (pc' := 17) rfl ?_
    exact g_retr (x := none) rfl (zfitr _ rfl) H
