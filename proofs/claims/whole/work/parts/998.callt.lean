/-! setLocal, start, run -/
section CALLT
variable {d th : Nat} {u : Nat × Nat} {e w c : zm} {s : ms} {X X' : xs} {N : Nat} {F : Int32 → zm → Prop}
def slc (X : xs) (a1 : Int32) : Int32 := if ¬ a1 < 0 ∧ a1 < 16 then (if xSt X = 0 ∨ xSt X = 2 then 2 else 0) else 1
theorem setc {n : Nat} {v : Int32} (R : RC e u th w X) : RC e u th (yuA w 1008 n v) (xLocal X n v) := by
  have R1 := R.mach ((xA X).1, (xA X).2.1, (xA X).2.2.1, (xA X).2.2.2.1, (xA X).2.2.2.2.1, upd (xA X).2.2.2.2.2.1 n v, (xA X).2.2.2.2.2.2.1, (xA X).2.2.2.2.2.2.2)
  rw [← pm_loc] at R1
  rw [← R.mid] at R1
  exact R1
theorem setm {n : Nat} {v : Int32} (R : RQ th s X) : RQ th (tA s 1033 (upd (sA s 1033) n v)) (xLocal X n v) := by
  obtain ⟨sl, ⟨a1, a2, a3, a4, a5, a6, a7, a8, a9, a10, a11, a12, a13, a14, a15, a16, a17, a18, a19, a20, a21, a22⟩, Rr, Rt⟩ := R
  refine ⟨sl, ⟨a1, a2, a3, a4, a5, ?_, a7, a8, a9, a10, a11, a12, a13, a14, a15, a16, a17, a18, a19, a20, a21, a22⟩, RMr_keep Rr rfl rfl rfl rfl rfl rfl rfl, Rt.keep (tmk_A _ _ (by decide)) rfl rfl⟩
  show upd (sA (tI s 1 0) 1033) n v = upd (xA X).2.2.2.2.2.1 n v
  rw [a6]
theorem l_setLocal (C : CW th u w X) (O : xOk N X) (hd : Nat.ble 6 d = true) (a1 a2 : Int32) (k : lres th (uX u) w (if slc X a1 = 0 then xLocal X a1.toNatClampNeg a2 else X) (slc X a1) ((xA X).2.2.2.2.2.1 a1.toNatClampNeg).toInt64 F) : zGo (d + 1) m_L_setLocal 0 [.ref 1000, .int a1, .int a2, .ref 1076, zJ] [] (yz w) (zKi F) := by
  have e5 : yI w 1007 5 = Int32.ofNat (xSt X) := C.1.2.2.2.2.2.2.2.2.2.2.2.2.1
  have er : yA w 1008 = (xA X).2.2.2.2.2.1 := C.1.2.2.2.2.2.1
  have h4 := O.2.1
  refine B_L_setLocal_0 _ _ (B_X8_setLocal_0 hd _ _ ?_)
  rw [er, e5, show ((Int32.ofNat (xSt X) = 0) = (xSt X = 0)) from n_eq (by omega) (by decide), show ((Int32.ofNat (xSt X) = 2) = (xSt X = 2)) from n_eq (by omega) (by decide)]
  have one : ¬ (¬ a1 < 0 ∧ a1 < 16) → F 1 (yuX w) := by
    intro z
    have e : slc X a1 = 1 := if_neg z
    rw [e, if_neg (by decide)] at k
    exact k.tw (by decide) C (mkp.rf w)
  have two : (¬ a1 < 0 ∧ a1 < 16) → (xSt X = 0 ∨ xSt X = 2) → F 2 (yuX w) := by
    intro z z2
    have e : slc X a1 = 2 := by unfold slc; rw [if_pos z, if_pos z2]
    rw [e, if_neg (by decide)] at k
    exact k.tw (by decide) C (mkp.rf w)
  refine ⟨fun z => Or.inl ⟨rfl, one (fun q => q.1 z)⟩, fun z => ⟨fun z2 => ⟨fun z3 => Or.inr ⟨rfl, two ⟨z, z2⟩ (Or.inl z3)⟩, fun z3 => ⟨fun z4 => Or.inr ⟨rfl, two ⟨z, z2⟩ (Or.inr z4)⟩, fun z4 => ?_⟩⟩, fun z2 => Or.inl ⟨rfl, one (fun q => z2 q.2)⟩⟩⟩
  have e : slc X a1 = 0 := by unfold slc; rw [if_pos ⟨z, z2⟩, if_neg (fun q => q.elim z3 z4)]
  rw [e, if_pos rfl] at k
  obtain ⟨n, n1, n2⟩ := n_of z
  subst n2
  rw [n_lit 16, n_lt n1 (by decide)] at z2
  have R1 := setc (n := (Int32.ofNat n).toNatClampNeg) (v := a2) C.rc
  exact ⟨n_in z2 (by decide), n_in z2 (by decide), k.ok R1.cw R1.2.2.2.mk⟩
theorem q_setLocal (R : RQ th s X) (O : xOk N X) (a1 a2 : Int32) (k : mres th c (if slc X a1 = 0 then xLocal X a1.toNatClampNeg a2 else X) (slc X a1) ((xA X).2.2.2.2.2.1 a1.toNatClampNeg) F) : zGo (d + 1) m_X9_setLocal 0 [.ref 1031, .int a1, .int a2, zJ] [] (yz (put c s)) (zKi F) := by
  have h4 := O.2.1
  have er : yA (put c s) 1033 = (xA X).2.2.2.2.2.1 := by
    obtain ⟨sl, Ra, -⟩ := R
    exact Ra.2.2.2.2.2.1
  have no : ∀ v : Int32, slc X a1 = v → ¬ v = 0 → 0 < v → zGo (d + 1) m_X9_setLocal 35 [.ref 1031, .int a1, .int a2, zJ] [.int v, .ref 1031] (yz (put c s)) (zKi F) := by
    intro v e hv hv2
    rw [e, if_neg hv] at k
    refine B_X9_setLocal_35 _ _ _ ⟨fun _ => ?_, fun q => absurd hv2 q⟩
    rw [p_I]
    exact k.tw hv R _
  refine B_X9_setLocal_0 _ _ (B_X9_in_0 _ _ _ ?_)
  rw [R.st2, show ((Int32.ofNat (xSt X) = 0) = (xSt X = 0)) from n_eq (by omega) (by decide), show ((Int32.ofNat (xSt X) = 2) = (xSt X = 2)) from n_eq (by omega) (by decide)]
  refine ⟨fun z => ⟨fun _ => no 1 (if_neg (fun q => q.1 z)) (by decide) (by decide), fun q => absurd rfl q⟩, fun z => ?_⟩
  obtain ⟨n, n1, n2⟩ := n_of z
  subst n2
  have hin : (Int32.ofNat n < 16) = (n < 16) := by rw [n_lit 16, n_lt n1 (by decide)]
  rw [n_lit 15, n_lt (by decide) n1]
  refine ⟨fun z2 => ⟨fun _ => no 1 (if_neg (fun q => by have := q.2; rw [hin] at this; omega)) (by decide) (by decide), fun q => absurd rfl q⟩, fun z2 => ⟨fun q => absurd q (by decide), fun _ => ?_⟩⟩
  have hr : ¬ Int32.ofNat n < 0 ∧ Int32.ofNat n < 16 := ⟨z, by rw [hin]; omega⟩
  refine ⟨fun z3 => no 2 (by unfold slc; rw [if_pos hr, if_pos (Or.inl z3)]) (by decide) (by decide), fun z3 => ⟨fun z4 => no 2 (by unfold slc; rw [if_pos hr, if_pos (Or.inr z4)]) (by decide) (by decide), fun z4 => ?_⟩⟩
  have e : slc X (Int32.ofNat n) = 0 := by unfold slc; rw [if_pos hr, if_neg (fun q => q.elim z3 z4)]
  rw [e, if_pos rfl] at k
  refine B_X9_setLocal_35 _ _ _ ⟨fun q => absurd q (by decide), fun _ => ⟨n_in (by omega) (by decide), n_in (by omega) (by decide), ?_⟩⟩
  rw [er, p_I, p_A _ _ _ _ _ rfl]
  exact k _ _ (setm (R.thr 0)) rfl (fun _ => rfl)
theorem xLocal_ok (O : xOk N X) (h2 : ¬ xSt X = 2) (n : Nat) (v : Int32) : xOk N (xLocal X n v) := by
  obtain ⟨o1, o2, o3, o4, o5, o6, o7, o8⟩ := O
  refine ⟨o1, o2, o3, o4, o5, o6, o7, fun z => ?_⟩
  obtain ⟨H, v1, v2, v3, v4⟩ := o8 z
  refine ⟨H, v1, v2, fun r hr => absurd (v3 r hr).1 h2, fun z2 => absurd z2 h2⟩
/-! start -/
theorem c1_begin {G : zm → Prop} (R : RC e u th w X) (hv : yk w 1011 = some (.inr (0, 32))) (k : ∀ w', RC e u th w' (xsA X (a0 (xA X))) → G w') : zGo (d + 1) m_X1_toBeginning 0 [.ref 1007] [] (yz w) (zKv G) := by
  refine B_X1_toBeginning_0 ?_
  refine c7_fill 0 hv rfl (by decide) ?_
  have R1 := R.mach (a0 (xA X))
  refine k _ ?_
  obtain ⟨⟨a1, a2, a3, a4, a5, a6, a7, a8, a9, a10, a11, a12, a13, a14, a15, a16, a17, a18, a19, a20, a21, a22, a23⟩, r2, r3, r4⟩ := R
  refine ⟨⟨rfl, rfl, rfl, rfl, a5, a6, ?_, a8, a9, a10, a11, a12, a13, a14, a15, a16, a17, a18, a19, a20, a21, a22, a23⟩, RCr_keep r2 ?_ ?_ rfl rfl, r3.dyn (((((dyn_I w 6 _ rfl (by decide)).trans (dyn_I _ 1 _ rfl (by decide))).trans (dyn_I _ 7 _ rfl (by decide))).trans (dyn_L _ _ _ _)).trans (dyn_R _ _ rfl)) rfl rfl, (((((r4.I 6 _ (by decide)).I 1 _ (by decide)).I 7 _ (by decide)).L 8 _ (by decide)).R _ rfl (by decide))⟩
  · show (fun i => if i < 32 then 0 else yA w 1011 i) = zmem (xA X).2.2.2.2.2.2.1 32
    rw [a7]
    rfl
  · show y2 (y2 (y2 (yI w) 1007 6 _) 1009 1 _) 1007 7 _ 1025 = yI w 1025
    rw [y2_row _ _ (by decide), y2_row _ _ (by decide), y2_row _ _ (by decide)]
  · show y2 (y2 (y2 (yI w) 1007 6 _) 1009 1 _) 1007 7 _ 1026 = yI w 1026
    rw [y2_row _ _ (by decide), y2_row _ _ (by decide), y2_row _ _ (by decide)]
theorem RC.n00 (R : RC e u th w X) (v : Int64) : RC e u th (yuL w 1000 8 v) (xM X, xC X, xF X, xSt X, xA X, xHe X, xCu X, y1 (xN X) 0 v, xR X, xT X) := by
  obtain ⟨⟨a1, a2, a3, a4, a5, a6, a7, a8, a9, a10, a11, a12, a13, a14, a15, a16, a17, a18, a19, a20, a21, a22, a23⟩, r2, r3, r4⟩ := R
  exact ⟨⟨a1, a2, a3, a4, a5, a6, a7, a8, a9, a10, a11, a12, a13, a14, a15, rfl, a17, a18, a19, a20, a21, a22, a23⟩, RCr_keep r2 rfl rfl rfl rfl, r3.dyn (dyn_L w _ _ _) rfl rfl, r4.L _ _ (by decide)⟩
def stc (X : xs) : Int32 := if xSt X = 0 then 1 else 0
theorem l_start (C : CW th u w X) (O : xOk N X) (hd : Nat.ble 6 (d + 2) = true) (k : ∀ w', CW th (uX u) w' (if stc X = 0 then xStart X else X) → mkp w w' → F (stc X) w') : zGo (d + 3) m_L_start 0 [.ref 1000, zJ] [] (yz w) (zKi F) := by
  have e5 : yI w 1007 5 = Int32.ofNat (xSt X) := C.1.2.2.2.2.2.2.2.2.2.2.2.2.1
  have h4 := O.2.1
  refine B_L_start_0 (B_X8_start_0 hd ?_)
  rw [e5, show ((Int32.ofNat (xSt X) = 0) = (xSt X = 0)) from n_eq (by omega) (by decide)]
  unfold stc at k
  refine ⟨fun z => ?_, fun z => ?_⟩
  · rw [if_pos z, if_neg (by decide)] at k
    exact ⟨rfl, k _ C.thr (mkp.rf w).thr⟩
  · rw [if_neg z, if_pos rfl] at k
    refine c4_drop C.rc (fun w1 R1 => ?_)
    have R2 := R1.n00 0
    refine c1_begin R2 rfl (fun w2 R3 => ?_)
    have R4 := R3.st 2 rfl
    exact k _ (CW.more R4.cw) R4.2.2.2.mk
theorem q_start {G : zm → Prop} (R : RQ th s X) (O : xOk N X) (k : ∀ s', RQ th s' (if stc X = 0 then xStart X else X) → sI s' 1 = stc X → G (put c s')) : zGo d m_X9_start 0 [.ref 1031, zJ] [] (yz (put c s)) (zKv G) := by
  have h4 := O.2.1
  refine B_X9_start_0 ?_
  rw [R.st2, show ((Int32.ofNat (xSt X) = 0) = (xSt X = 0)) from n_eq (by omega) (by decide)]
  unfold stc at k
  refine ⟨fun z => ?_, fun z => ?_⟩
  · rw [if_pos z, if_neg (by decide)] at k
    refine B_X9_start_13 _ ⟨fun _ => ?_, fun q => absurd (by decide) q⟩
    rw [p_I]
    exact k _ (R.thr 1) rfl
  · rw [if_neg z, if_pos rfl] at k
    refine B_X9_start_13 _ ⟨fun q => absurd q (by decide), fun _ => ?_⟩
    rw [p_I, p_I, p_I, p_I, p_I]
    obtain ⟨sl, ⟨a1, a2, a3, a4, a5, a6, a7, a8, a9, a10, a11, a12, a13, a14, a15, a16, a17, a18, a19, a20, a21, a22⟩, Rr, Rt⟩ := R
    have loop : ∀ (j i : Nat) (s' : ms), i + j = 32 → sI s' = y1 (y1 (y1 (y1 (y1 s.1 1 0) 2 2) 6 0) 9 0) 12 0 → sL s' = sL s → (∀ p, p ≠ 1035 → sA s' p = sA s p) → sA s' 1035 = zmem (sA s 1035) i → zGo d m_X9_start 46 [.ref 1031, .int (Int32.ofNat i)] [] (yz (put c s')) (zKv G) := by
      intro j
      induction j with
      | zero =>
        intro i s' hi hI hL hA hZ
        have hi : i = 32 := by omega
        subst hi
        refine B_X9_start_46 _ ?_
        rw [n_lit 32, n_lt (by omega) (by decide), p_L, p_L, p_I, p_I]
        refine ⟨fun q => absurd q (by omega), fun _ => k _ ⟨sl, ?_, rfl, Rt.keep (fun p h1 h2 => hA p (by omega)) rfl rfl⟩ ?_⟩
        · have hi' : ∀ b, y1 (y1 (sI s') 19 0) 42 (-1) b = y1 (y1 (y1 (y1 (y1 (y1 (y1 s.1 1 0) 2 2) 6 0) 9 0) 12 0) 19 0) 42 (-1) b := fun b => by rw [hI]
          refine ⟨hi' 6, hi' 9, hi' 12, rfl, (hA 1034 (by decide)).trans a5, (hA 1033 (by decide)).trans a6, ?_, (hA 1036 (by decide)).trans a8, a9, (hi' 3).trans a10, (hA 1032 (by decide)).trans a11, (hi' 5).trans a12, hi' 2, (hA 1037 (by decide)).trans a14, (hA 1038 (by decide)).trans a15, rfl, ?_, ?_, ?_, ?_, (hi' 0).trans a21, rfl, rfl⟩
          · show sA s' 1035 = zmem (xA X).2.2.2.2.2.2.1 32
            have a7 : sA s 1035 = _ := a7
            rw [hZ, a7]
          · show sL s' 15 = _
            rw [hL]; exact a17
          · show sL s' 16 = _
            rw [hL]; exact a18
          · show sL s' 17 = _
            rw [hL]; exact a19
          · show sL s' 18 = _
            rw [hL]; exact a20
        · show y1 (y1 (sI s') 19 0) 42 (-1) 1 = 0
          rw [hI]
          rfl
      | succ j ih =>
        intro i s' hi hI hL hA hZ
        refine B_X9_start_46 _ ?_
        rw [n_lit 32, n_lt (by omega) (by decide), n_cl (by omega), p_A _ _ _ _ _ rfl, show (Int32.ofNat i + 1 : Int32) = Int32.ofNat (i + 1) from n_add _ 1]
        refine ⟨fun _ => ⟨n_in (by omega) (by decide), ih (i + 1) _ (by omega) hI hL (fun p hp => (y1_ne _ _ hp).trans (hA p hp)) ?_⟩, fun q => absurd (by omega) q⟩
        show upd (sA s' 1035) i 0 = _
        rw [hZ, zmem_step]
    exact loop 32 0 _ (by omega) rfl rfl (fun _ _ => rfl) (zmem_0 _).symm
theorem xStart_ok (O : xOk N X) (h0 : ¬ xSt X = 0) : xOk 0 (xStart X) := by
  obtain ⟨o1, o2, o3, o4, o5, o6, o7, o8⟩ := O
  obtain ⟨H, v1, v2, v3, v4⟩ := o8 h0
  exact ⟨o1, by show 2 ≤ 4; decide, rfl, Nat.le_refl 0, by show 0 < 200; decide, by show 0 ≤ 16; decide, fun z => absurd z (by show ¬ 2 = 0; decide), fun _ => ⟨H, v1, v2, fun r hr => (by cases hr), fun _ => v1.2.2.1⟩⟩
end CALLT
