/-! the law's loop -/
section LAW
variable {d th ns : Nat} {u : Nat × Nat} {N N' : Nat} {w : zm} {X X' : xs} {F : Int32 → zm → Prop}
theorem LW.go {w5 : zm} {s' : ms} {u' : Nat × Nat} (h0 : yk w 0 = some (.inr (9, ns))) (C : CW th u' w5 X') (K : mkp w w5) (R : RQ th s' X') (O : xOk N' X') : LW th ns u' N' (put w5 s') X' := by
  refine ⟨C.put s', R.cong (fun _ _ => rfl) rfl (fun q hq => ?_), O, ?_⟩
  · show (bif yrM q then sA s' q else yA w5 q) = sA s' q
    rw [hq]
    rfl
  · show yK w5 0 = _
    rw [K.2.2.2.2]
    exact h0
theorem mkp.k0 {w5 : zm} (K : mkp w w5) (h0 : yk w 0 = some (.inr (9, ns))) : yk w5 0 = some (.inr (9, ns)) := by
  show yK w5 0 = _
  rw [K.2.2.2.2]
  exact h0
theorem law_tailL {w5 : zm} {s' : ms} {v6 : Int32} {v11 v : Int64} {g : zm → Prop} (h1 : sI s' 1 = v6) (hv : v6 = 0 → v11 = v) (hB : v6 = 0 → yB w5 1076 0 = v) (k : g (put w5 s')) :
    zGo d m_X9_thrown 0 [.ref 1031] [] (yz (put w5 s')) (zKi fun v13 w12 => ((v13 = v6 → ((v6 = 0 → (((lg_cmp (yB w12 1076 (Int32.toNatClampNeg (0 : Int32))) v11) = 0 → g w12) ∧ (¬ (lg_cmp (yB w12 1076 (Int32.toNatClampNeg (0 : Int32))) v11) = 0 → F (0 : Int32) w12))) ∧ (¬ v6 = 0 → g w12))) ∧ (¬ v13 = v6 → F (0 : Int32) w12))) := by
  refine B_X9_thrown_0 ?_
  refine ⟨fun _ => ⟨fun z => ⟨fun _ => k, fun q => absurd ?_ q⟩, fun _ => k⟩, fun z => absurd h1 z⟩
  have e : yB (put w5 s') 1076 (Int32.toNatClampNeg (0 : Int32)) = v := hB z
  rw [e, hv z, lg_same]
theorem law_tailB {w5 : zm} {s' : ms} {v6 v11 : Int32} {b : Bool} {g : zm → Prop} (h1 : sI s' 1 = v6) (hv : v6 = 0 → v11 = (if b = true then 1 else 0)) (hB : v6 = 0 → yB w5 1076 0 = (if b = true then 1 else 0)) (k : g (put w5 s')) :
    zGo d m_X9_thrown 0 [.ref 1031] [] (yz (put w5 s')) (zKi fun v13 w12 => ((v13 = v6 → ((v6 = 0 → ((v11 = 0 → (((lg_cmp (yB w12 1076 (Int32.toNatClampNeg (0 : Int32))) (0 : Int64)) = 0 → g w12) ∧ (¬ (lg_cmp (yB w12 1076 (Int32.toNatClampNeg (0 : Int32))) (0 : Int64)) = 0 → F (0 : Int32) w12))) ∧ (¬ v11 = 0 → (((lg_cmp (yB w12 1076 (Int32.toNatClampNeg (0 : Int32))) (1 : Int64)) = 0 → g w12) ∧ (¬ (lg_cmp (yB w12 1076 (Int32.toNatClampNeg (0 : Int32))) (1 : Int64)) = 0 → F (0 : Int32) w12))))) ∧ (¬ v6 = 0 → g w12))) ∧ (¬ v13 = v6 → F (0 : Int32) w12))) := by
  refine B_X9_thrown_0 ?_
  refine ⟨fun _ => ⟨fun z => ⟨fun y => ⟨fun _ => k, fun q => absurd ?_ q⟩, fun y => ⟨fun _ => k, fun q => absurd ?_ q⟩⟩, fun _ => k⟩, fun z => absurd h1 z⟩
  all_goals
    have e : yB (put w5 s') 1076 (Int32.toNatClampNeg (0 : Int32)) = (if b = true then 1 else 0) := hB z
    have e2 := hv z
    rw [e]
    cases b with
    | false => first | exact lg_same 0 | exact absurd e2 y
    | true => first | exact lg_same 1 | exact absurd (e2.symm.trans y) (by decide)
theorem n_end {ns i : Nat} (h1 : ns < 100000) (h2 : i < 100000) : (Int32.ofNat ns - 4 < Int32.ofNat i) = (ns < i + 4) := by
  by_cases h : 4 ≤ ns
  · rw [show (Int32.ofNat ns - 4 : Int32) = Int32.ofNat (ns - 4) from n_sub (a := ns) (b := 4) h, n_lt (by omega) (by omega)]
    exact propext ⟨fun _ => by omega, fun _ => by omega⟩
  · refine propext ⟨fun _ => by omega, fun _ => ?_⟩
    rw [Int32.lt_iff_toInt_lt, n_toInt (by omega)]
    obtain e | e | e | e : ns = 0 ∨ ns = 1 ∨ ns = 2 ∨ ns = 3 := by omega
    · subst e; rw [show (Int32.ofNat 0 - 4 : Int32).toInt = -4 from rfl]; omega
    · subst e; rw [show (Int32.ofNat 1 - 4 : Int32).toInt = -3 from rfl]; omega
    · subst e; rw [show (Int32.ofNat 2 - 4 : Int32).toInt = -2 from rfl]; omega
    · subst e; rw [show (Int32.ofNat 3 - 4 : Int32).toInt = -1 from rfl]; omega
theorem poke_ok (O : xOk N X) (a1 a2 : Int32) : xOk N (if pkc X a1 = 0 then xPoke X a1.toNatClampNeg a2 else X) := by
  by_cases h : pkc X a1 = 0
  · rw [if_pos h]
    unfold pkc at h
    by_cases c1 : ¬ a1 < 0 ∧ ¬ Int32.ofNat (xM X) < a1 ∧ a1 < 200
    · rw [if_pos c1] at h
      by_cases c2 : xSt X = 0
      · obtain ⟨n, n1, n2⟩ := n_of c1.1
        have hb : n ≤ xM X ∧ n < 200 := by
          rw [← n_pk n2 n1 O.1]
          exact c1.2
        subst n2
        rw [n_cl n1]
        exact xPoke_ok O c2 hb.1 hb.2 a2
      · rw [if_neg c2] at h
        exact absurd h (by decide)
    · rw [if_neg c1] at h
      exact absurd h (by decide)
  · rw [if_neg h]
    exact O
theorem setLocal_ok (O : xOk N X) (a1 a2 : Int32) : xOk N (if slc X a1 = 0 then xLocal X a1.toNatClampNeg a2 else X) := by
  by_cases h : slc X a1 = 0
  · rw [if_pos h]
    unfold slc at h
    by_cases c1 : ¬ a1 < 0 ∧ a1 < 16
    · rw [if_pos c1] at h
      by_cases c2 : xSt X = 0 ∨ xSt X = 2
      · rw [if_pos c2] at h
        exact absurd h (by decide)
      · exact xLocal_ok O (fun z => c2 (Or.inr z)) _ _
    · rw [if_neg c1] at h
      exact absurd h (by decide)
  · rw [if_neg h]
    exact O
theorem start_ok (O : xOk N X) : ∃ N', N' ≤ N ∧ xOk N' (if stc X = 0 then xStart X else X) := by
  by_cases h : stc X = 0
  · rw [if_pos h]
    unfold stc at h
    by_cases c : xSt X = 0
    · rw [if_pos c] at h
      exact absurd h (by decide)
    · exact ⟨0, Nat.zero_le _, xStart_ok O c⟩
  · rw [if_neg h]
    exact ⟨N, Nat.le_refl _, O⟩
theorem run_ok (O : xOk N X) (a1 : Int32) : ∃ N', N' ≤ N + 100000 ∧ xOk N' (if ruc X a1 = 0 then xRun th a1.toNatClampNeg a1.toNatClampNeg X else X) := by
  by_cases h : ruc X a1 = 0
  · rw [if_pos h]
    unfold ruc at h
    by_cases c1 : ¬ a1 < 0 ∧ ¬ 100000 < a1
    · obtain ⟨n, n1, n2⟩ := n_of c1.1
      subst n2
      have hb := c1.2
      rw [n_lit 100000, n_lt (by decide) n1] at hb
      rw [n_cl n1]
      obtain ⟨N', q1, q2⟩ := xRun_ok th n n N X O
      exact ⟨N', by omega, q2⟩
    · rw [if_neg c1] at h
      exact absurd h (by decide)
  · rw [if_neg h]
    exact ⟨N, by omega, O⟩
theorem inv_ok (O : xOk N X) (a1 : Int32) : xOk N (if ¬ a1 < 0 ∧ a1 < Int32.ofNat (xM X) then xInv X a1.toNatClampNeg else X) := by
  split
  · exact xInv_ok O _
  · exact O
set_option maxHeartbeats 4000000 in
theorem law_step {i : Nat} {ua5 ua6 : Value} (hua : zisL ua5 = false) (L : LW th ns u N w X) (hN : N < 500000000) (hns : ns < 100000) (hi : i + 4 ≤ ns)
    (next : ∀ w' X' N' v5 v6, zisL v5 = false → LW th ns (uX u) N' w' X' → N' ≤ N + 100000 → zGo (d + 9) m_L_law 33 [.ref 0, .ref 1000, .ref 1031, .ref 1076, .int (Int32.ofNat i + 4), v5, v6, zJ] [] (yz w') (zKi F)) :
    zGo (d + 9) m_L_law 33 [.ref 0, .ref 1000, .ref 1031, .ref 1076, .int (Int32.ofNat i), ua5, ua6, zJ] [] (yz w) (zKi F) := by
  obtain ⟨C, R, O, h0⟩ := id L
  have hd : ∀ k, 6 ≤ k → Nat.ble 6 k = true := fun k hk => Nat.ble_eq_true_of_le hk
  refine B_L_law_33 _ _ _ ns hua ⟨h0, fun z => ?_, fun _ => ⟨n_in (by omega) (by omega), ?_⟩⟩
  · rw [n_end hns (by omega)] at z
    omega
  obtain ⟨m, m1, m2⟩ := n_and (x := yA w 0 (Int32.toNatClampNeg (Int32.ofNat i))) 31 (by decide)
  rw [show (yA w 0 (Int32.toNatClampNeg (Int32.ofNat i)) &&& (31 : Int32)) = Int32.ofNat m from m2, n_toInt (by omega), show (Int32.ofNat i + (1 : Int32)) = Int32.ofNat (i + 1) from n_add _ 1, show (Int32.ofNat i + (2 : Int32)) = Int32.ofNat (i + 2) from n_add _ 2, show (Int32.ofNat i + (3 : Int32)) = Int32.ofNat (i + 3) from n_add _ 3]
  have z1 : zin (Int32.ofNat (i + 1)) ns := n_in (by omega) (by omega)
  have z2 : zin (Int32.ofNat (i + 2)) ns := n_in (by omega) (by omega)
  have z3 : zin (Int32.ofNat (i + 3)) ns := n_in (by omega) (by omega)
  have one : ∀ (w5 : zm) (s' : ms) (X' : xs) (N' : Nat) (v5 v6 : Value), zisL v5 = false → CW th (uX u) w5 X' → mkp w w5 → RQ th s' X' → xOk N' X' → N' ≤ N + 100000 → zGo (d + 9) m_L_law 33 [.ref 0, .ref 1000, .ref 1031, .ref 1076, .int (Int32.ofNat i + 4), v5, v6, zJ] [] (yz (put w5 s')) (zKi F) := fun w5 s' X' N' v5 v6 h1 C5 K5 R5 O5 h2 => next _ X' N' v5 v6 h1 (LW.go h0 C5 K5 R5 O5) h2
  have pw : ∀ w5 : zm, yz w5 = yz (put w5 (sOf w5)) := fun w5 => by rw [put_sOf]
  have R0 : RQ th (tI (sOf w) 1 0) X := R.thr 0
  refine ⟨?_, ?_, ?_, ?_, ?_, ?_, ?_, ?_, ?_, ?_, ?_, ?_, ?_, ?_, ?_, ?_, ?_, ?_, ?_, ?_, ?_, ?_, ?_, ?_⟩
  · intro _
    exact next w X N _ _ hua ⟨C.more, R, O, h0⟩ (by omega)
  · intro _
    refine ⟨z1, z2, l_poke C O (hd _ (by omega)) _ _ (fun w5 C5 K5 hB => ⟨K5.k0 h0, z1, z2, ?_⟩)⟩
    rw [show yA w5 0 = yA w 0 from K5.2.2.2.1, pw w5]
    refine q_poke (K5.rm R) O _ _ (fun s' vm R' h1 hv => ?_)
    exact law_tail h1 hv hB (one _ _ _ _ _ _ rfl C5 K5 R' (poke_ok O _ _) (by omega))
  · intro _
    refine l_verify C O (fun w5 C5 K5 => ?_)
    rw [pw w5]
    refine q_verify (K5.rm R) O (fun s' R' => ⟨fun _ => one _ _ _ _ _ _ hua C5 K5 R' (xVer_ok O) (by omega), fun z => absurd rfl z⟩)
  · intro _
    refine B_X8_place_0 ?_
    rw [pw w]
    refine B_X9_place_0 ?_
    rw [p_I]
    have e1 : yI w 1003 4 = xF X := C.1.2.2.2.2.2.2.2.2.2.2.2.1
    have e2 : yI (put w (sOf w)) 1031 5 = xF X := by
      obtain ⟨sl, Ra, -⟩ := R
      exact Ra.2.2.2.2.2.2.2.2.2.2.2.1
    exact ⟨fun _ => one _ _ _ _ _ _ hua C.more (mkp.rf w) R0 O (by omega), fun z => absurd (e1.trans e2.symm) z⟩
  · intro _
    refine ⟨z1, z2, l_setLocal C O (hd _ (by omega)) _ _ (fun w5 C5 K5 hB => ⟨K5.k0 h0, z1, z2, ?_⟩)⟩
    rw [show yA w5 0 = yA w 0 from K5.2.2.2.1, pw w5]
    refine q_setLocal (K5.rm R) O _ _ (fun s' vm R' h1 hv => ?_)
    exact law_tail h1 hv hB (one _ _ _ _ _ _ rfl C5 K5 R' (setLocal_ok O _ _) (by omega))
  · intro _
    obtain ⟨N1, b1, b2⟩ := start_ok O
    refine l_start C O (hd _ (by omega)) (fun w5 C5 K5 => ?_)
    rw [pw w5]
    refine q_start (K5.rm R) O (fun s' R' h1 => B_X9_thrown_0 ⟨fun _ => one _ _ _ _ _ _ rfl C5 K5 R' b2 (by omega), fun z => absurd h1 z⟩)
  · intro _
    obtain ⟨N1, b1, b2⟩ := run_ok (th := th) O (yA w 0 (Int32.toNatClampNeg (Int32.ofNat (i + 1))))
    refine ⟨z1, l_run C O (by omega) (hd _ (by omega)) _ (fun w5 C5 K5 hB => ⟨K5.k0 h0, z1, ?_⟩)⟩
    rw [show yA w5 0 = yA w 0 from K5.2.2.2.1, pw w5]
    refine q_run (K5.rm R) O (by omega) _ (fun s' vm R' h1 hv => ?_)
    exact law_tail h1 hv hB (one _ _ _ _ _ _ rfl C5 K5 R' b2 b1)
  · intro _
    refine B_X8_state_0 ?_
    rw [pw w]
    refine B_X9_state_0 ?_
    rw [p_I]
    have e1 : yI w 1007 5 = Int32.ofNat (xSt X) := C.1.2.2.2.2.2.2.2.2.2.2.2.2.1
    have e2 : yI (put w (sOf w)) 1031 2 = Int32.ofNat (xSt X) := by
      obtain ⟨sl, Ra, -⟩ := R
      exact Ra.2.2.2.2.2.2.2.2.2.2.2.2.1
    exact ⟨fun _ => one _ _ _ _ _ _ hua C.more (mkp.rf w) R0 O (by omega), fun z => absurd (e1.trans e2.symm) z⟩
  · intro _
    refine B_X8_address_0 ?_
    rw [pw w]
    refine B_X9_address_0 ?_
    rw [p_I]
    have e1 : yI w 1007 6 = Int32.ofNat (xA X).1 := C.1.1
    have e2 : yI (put w (sOf w)) 1031 6 = Int32.ofNat (xA X).1 := by
      obtain ⟨sl, Ra, -⟩ := R
      exact Ra.1
    exact ⟨fun _ => one _ _ _ _ _ _ hua C.more (mkp.rf w) R0 O (by omega), fun z => absurd (e1.trans e2.symm) z⟩
  · intro _
    refine ⟨z1, l_local C (hd _ (by omega)) _ (fun w5 C5 K5 hB => ⟨K5.k0 h0, z1, ?_⟩)⟩
    rw [show yA w5 0 = yA w 0 from K5.2.2.2.1, pw w5]
    refine q_local (K5.rm R) _ (fun s' vm R' h1 hv => ?_)
    exact law_tail h1 hv hB (one _ _ _ _ _ _ rfl C5 K5 R' O (by omega))
  · intro _
    refine ⟨z1, l_memory C (hd _ (by omega)) _ (fun w5 C5 K5 hB => ⟨K5.k0 h0, z1, ?_⟩)⟩
    rw [show yA w5 0 = yA w 0 from K5.2.2.2.1, pw w5]
    refine q_memory (K5.rm R) _ (fun s' vm R' h1 hv => ?_)
    exact law_tail h1 hv hB (one _ _ _ _ _ _ rfl C5 K5 R' O (by omega))
  · intro _
    refine B_X8_height_0 ?_
    rw [pw w]
    refine B_X9_height_0 ?_
    rw [p_I]
    have e1 : yI w 1009 1 = Int32.ofNat (xA X).2.1 := C.1.2.1
    have e2 : yI (put w (sOf w)) 1031 9 = Int32.ofNat (xA X).2.1 := by
      obtain ⟨sl, Ra, -⟩ := R
      exact Ra.2.1
    exact ⟨fun _ => one _ _ _ _ _ _ hua C.more (mkp.rf w) R0 O (by omega), fun z => absurd (e1.trans e2.symm) z⟩
  · intro _
    refine ⟨z1, l_stack C O.2.2.2.2.2.1 (hd _ (by omega)) _ (fun w5 C5 K5 hB => ⟨K5.k0 h0, z1, ?_⟩)⟩
    rw [show yA w5 0 = yA w 0 from K5.2.2.2.1, pw w5]
    refine q_stack (K5.rm R) O.2.2.2.2.2.1 _ (fun s' vm R' h1 hv => ?_)
    exact law_tail h1 hv hB (one _ _ _ _ _ _ rfl C5 K5 R' O (by omega))
  · intro _
    refine B_X8_emitted_0 ?_
    rw [pw w]
    refine B_X9_emitted_0 ?_
    rw [p_I]
    have e1 : yI w 1007 7 = Int32.ofNat (xA X).2.2.1 := C.1.2.2.1
    have e2 : yI (put w (sOf w)) 1031 12 = Int32.ofNat (xA X).2.2.1 := by
      obtain ⟨sl, Ra, -⟩ := R
      exact Ra.2.2.1
    exact ⟨fun _ => one _ _ _ _ _ _ hua C.more (mkp.rf w) R0 O (by omega), fun z => absurd (e1.trans e2.symm) z⟩
  · intro _
    refine ⟨z1, l_output C (hd _ (by omega)) _ (fun w5 C5 K5 hB => ⟨K5.k0 h0, z1, ?_⟩)⟩
    rw [show yA w5 0 = yA w 0 from K5.2.2.2.1, pw w5]
    refine q_output (K5.rm R) _ (fun s' vm R' h1 hv => ?_)
    exact law_tail h1 hv hB (one _ _ _ _ _ _ rfl C5 K5 R' O (by omega))
  · intro _
    refine ⟨z1, l_steps C (hd _ (by omega)) _ (fun w5 C5 K5 hB => ⟨K5.k0 h0, z1, ?_⟩)⟩
    rw [show yA w5 0 = yA w 0 from K5.2.2.2.1, pw w5]
    refine q_steps (K5.rm R) _ (fun s' vm R' h1 hv => ?_)
    exact law_tailL h1 hv hB (one _ _ _ _ _ _ rfl C5 K5 R' O (by omega))
  · intro _
    refine ⟨z1, l_heat C (hd _ (by omega)) _ (fun w5 C5 K5 hB => ⟨K5.k0 h0, z1, ?_⟩)⟩
    rw [show yA w5 0 = yA w 0 from K5.2.2.2.1, pw w5]
    refine q_heat (K5.rm R) _ (fun s' vm R' h1 hv => ?_)
    exact law_tail h1 hv hB (one _ _ _ _ _ _ rfl C5 K5 R' O (by omega))
  · intro _
    refine B_X8_traces_0 ?_
    rw [pw w]
    obtain ⟨sl, Ra, Rr, Rt⟩ := id R
    refine B_X9_traces_0 ?_
    rw [p_I]
    refine c9_many (s := tI (sOf w) 1 0) Rt ?_
    exact ⟨fun _ => one _ _ _ _ _ _ hua C.more (mkp.rf w) R0 O (by omega), fun z => absurd C.rc.many.1 z⟩
  · intro _
    refine ⟨z1, l_traceAt C (hd _ (by omega)) _ (fun w5 C5 K5 hB => ⟨K5.k0 h0, z1, ?_⟩)⟩
    rw [show yA w5 0 = yA w 0 from K5.2.2.2.1, pw w5]
    refine q_traceAt (K5.rm R) O _ (fun s' vm R' h1 hv => ?_)
    exact law_tail h1 hv hB (one _ _ _ _ _ _ rfl C5 K5 R' O (by omega))
  · intro _
    refine ⟨z1, z2, l_trace C (hd _ (by omega)) _ _ (fun w5 C5 K5 hB => ⟨K5.k0 h0, z1, z2, ?_⟩)⟩
    rw [show yA w5 0 = yA w 0 from K5.2.2.2.1, pw w5]
    refine q_trace (K5.rm R) _ _ (fun s' vm R' h1 hv => ?_)
    exact law_tail h1 hv hB (one _ _ _ _ _ _ rfl C5 K5 R' O (by omega))
  · intro _
    refine ⟨z1, z2, z3, l_guard C O (hd _ (by omega)) _ _ _ (fun w5 C5 K5 hB => ⟨K5.k0 h0, z1, z2, z3, ?_⟩)⟩
    rw [show yA w5 0 = yA w 0 from K5.2.2.2.1, pw w5]
    refine q_guard (K5.rm R) O _ _ _ (fun s' vm R' h1 hv => ?_)
    exact law_tail h1 hv hB (one _ _ _ _ _ _ rfl C5 K5 R' O (by omega))
  · intro _
    refine l_recording C ?_
    rw [pw w]
    refine q_recording R (fun s' R' => ⟨fun _ => one _ _ _ _ _ _ hua C.more (mkp.rf w) R' O (by omega), fun z => absurd rfl z⟩)
  · intro _
    refine ⟨z1, l_invalidate C O (hd _ (by omega)) _ (fun w5 C5 K5 hB => ⟨K5.k0 h0, z1, ?_⟩)⟩
    rw [show yA w5 0 = yA w 0 from K5.2.2.2.1, pw w5]
    refine q_invalidate (K5.rm R) O _ (fun s' vm R' h1 hv => ?_)
    exact law_tailB h1 hv hB (one _ _ _ _ _ _ rfl C5 K5 R' (inv_ok O _) (by omega))
  · intro _
    obtain ⟨b1, b2⟩ := xReset_ok O
    refine l_reset C (fun w5 C5 K5 => ?_)
    rw [pw w5]
    obtain ⟨sl, Ra, -⟩ := id (K5.rm R)
    obtain ⟨a1, a2, a3, a4, a5, a6, a7, a8, a9, a10, a11, a12, a13, a14, a15, a16, a17, a18, a19, a20, a21, a22⟩ := Ra
    exact q_reset (X := X) (s := sOf w5) a21 a11 a6 a5 a7 a8 a14 a15 b2 (fun s' R' => one _ _ _ _ _ _ hua C5 K5 R'.rq b1 (by omega))
theorem law_loop (hns : ns ≤ 2049) (hF : ∀ w u N X, LW th ns u N w X → u.1 ≤ 2000 + ns → u.2 ≤ 20000 + 6 * ns → F 1 w) : ∀ (j i N : Nat) (w : zm) (X : xs) (u : Nat × Nat) (v5 v6 : Value), ns ≤ i + 4 * j → i ≤ ns + 4 → zisL v5 = false → LW th ns u N w X → u.1 ≤ 1990 + i → u.2 ≤ 19900 + 6 * i → N ≤ 100000 * i → i < 4000 → zGo (d + 9) m_L_law 33 [.ref 0, .ref 1000, .ref 1031, .ref 1076, .int (Int32.ofNat i), v5, v6, zJ] [] (yz w) (zKi F) := by
  intro j
  induction j with
  | zero =>
    intro i N w X u v5 v6 h1 h2 hv L u1 u2 hN hi
    refine B_L_law_33 _ _ _ ns hv ⟨L.2.2.2, ?_⟩
    rw [n_end (by omega) (by omega)]
    exact ⟨fun _ => hF w u N X L (by omega) (by omega), fun z => absurd (by omega) z⟩
  | succ j ih =>
    intro i N w X u v5 v6 h1 h2 hv L u1 u2 hN hi
    by_cases c : ns < i + 4
    · refine B_L_law_33 _ _ _ ns hv ⟨L.2.2.2, ?_⟩
      rw [n_end (by omega) (by omega)]
      exact ⟨fun _ => hF w u N X L (by omega) (by omega), fun z => absurd c z⟩
    · refine law_step hv L (by omega) (by omega) (by omega) (fun w' X' N' v5' v6' hv' L' hN' => ?_)
      rw [show (Int32.ofNat i + 4 : Int32) = Int32.ofNat (i + 4) from n_add _ 4]
      exact ih (i + 4) N' w' X' (uX u) v5' v6' (by omega) (by omega) hv' L' (by show u.1 + 1 ≤ _; omega) (by show u.2 + 6 ≤ _; omega) (by omega) (by omega)
end LAW
