/-! verify, steps -/
def xVer (X : xs) : xs := (xM X, xC X, (vfault (xM X) (xC X)).2, (if (vfault (xM X) (xC X)).1 = 0 ∧ xSt X = 0 then 1 else xSt X), xA X, xHe X, xCu X, xN X, xR X, xT X)
def stv (X : xs) (z : Int) : Int64 := if z = 0 then (xA X).2.2.2.1 else if z = 1 then xN X 0 else if z = 2 then xN X 1 else if z = 3 then xN X 2 else if z = 4 then xN X 3 else xN X 4
def mresL (th : Nat) (c : zm) (X' : xs) (kc : Int32) (v : Int64) (F : Int64 → zm → Prop) : Prop := ∀ s' vm, RQ th s' X' → sI s' 1 = kc → (kc = 0 → vm = v) → F vm (put c s')
section CALLV
variable {d th : Nat} {u : Nat × Nat} {e w c : zm} {s : ms} {X X' : xs} {N : Nat} {F : Int32 → zm → Prop}
theorem l_verify (C : CW th u w X) (O : xOk N X) (k : ∀ w', CW th (uX u) w' (xVer X) → mkp w w' → F (Int32.ofNat (vfault (xM X) (xC X)).1) w') : zGo (d + 6) m_X8_verify 0 [.ref 1000, zJ] [] (yz w) (zKi F) := by
  have h4 := O.2.1
  have hf := vfault_lt (m := xM X) (cd := xC X)
  refine B_X8_verify_0 ?_
  refine c0_findFault C.rc.code C.1.2.2.2.2.2.2.2.2.2.2.2.2.2.2.2.2.2.2.2.2.2.1 (fun f g => ?_)
  obtain ⟨⟨a1, a2, a3, a4, a5, a6, a7, a8, a9, a10, a11, a12, a13, a14, a15, a16, a17, a18, a19, a20, a21, a22, a23⟩, r2, r3⟩ := id C
  have e5 : yI (vw w f g (vfault (xM X) (xC X)).2) 1007 5 = Int32.ofNat (xSt X) := a13
  have D : dyn w (vw w f g (vfault (xM X) (xC X)).2) := ((dyn_R w f rfl).trans (dyn_R _ g rfl)).trans (dyn_I _ 4 _ rfl (by decide))
  have K : kp w (vw w f g (vfault (xM X) (xC X)).2) := (((kp.rf w).R f rfl (by decide)).R g rfl (by decide)).I 4 _ (by decide)
  have r2' : RCr (xC X) (vw w f g (vfault (xM X) (xC X)).2) (xR X) := by
    refine RCr_keep r2 ?_ ?_ rfl rfl
    · show y2 (yI w) 1003 4 _ 1025 = yI w 1025
      rw [y2_row _ _ (by decide)]
    · show y2 (yI w) 1003 4 _ 1026 = yI w 1026
      rw [y2_row _ _ (by decide)]
  have C1 : ∀ v, xSt X = v → CW th u (vw w f g (vfault (xM X) (xC X)).2) (xM X, xC X, (vfault (xM X) (xC X)).2, v, xA X, xHe X, xCu X, xN X, xR X, xT X) := by
    intro v hv
    subst hv
    exact ⟨⟨a1, a2, a3, a4, a5, a6, a7, a8, a9, a10, a11, rfl, a13, a14, a15, a16, a17, a18, a19, a20, a21, a22, a23⟩, r2', r3.dyn D rfl rfl⟩
  rw [e5, show ((Int32.ofNat (vfault (xM X) (xC X)).1 = 0) = ((vfault (xM X) (xC X)).1 = 0)) from n_eq (by omega) (by decide), show ((Int32.ofNat (xSt X) = 0) = (xSt X = 0)) from n_eq (by omega) (by decide)]
  unfold xVer at k
  refine ⟨fun z => ⟨fun z2 => ?_, fun z2 => ?_⟩, fun z => ?_⟩
  · rw [if_pos ⟨z, z2⟩] at k
    have R1 : RC w u th (vw w f g (vfault (xM X) (xC X)).2) _ := ⟨(C1 _ rfl).1, (C1 _ rfl).2.1, (C1 _ rfl).2.2, K⟩
    have R2 := R1.st 1 rfl
    exact k _ (CW.more R2.cw) R2.2.2.2.mk
  · rw [if_neg (fun q => z2 q.2)] at k
    exact k _ (CW.more (C1 _ rfl)) K.mk
  · rw [if_neg (fun q => z q.1)] at k
    exact k _ (CW.more (C1 _ rfl)) K.mk
theorem q_verify (R : RQ th s X) (O : xOk N X) (k : ∀ s', RQ th s' (xVer X) → F (Int32.ofNat (vfault (xM X) (xC X)).1) (put c s')) : zGo (d + 3) m_X9_verify 0 [.ref 1031, zJ] [] (yz (put c s)) (zKi F) := by
  have h4 := O.2.1
  have hf := vfault_lt (m := xM X) (cd := xC X)
  obtain ⟨sl, ⟨a1, a2, a3, a4, a5, a6, a7, a8, a9, a10, a11, a12, a13, a14, a15, a16, a17, a18, a19, a20, a21, a22⟩, Rr, Rt⟩ := id R
  refine B_X9_verify_0 ?_
  rw [p_I, p_I]
  refine c9_judge a9 a10 a11 rfl (fun f g => ?_)
  have e5 : yI (put c (vs (tI (tI s 1 0) 5 (-1)) f g (vfault (xM X) (xC X)).2)) 1031 2 = Int32.ofNat (xSt X) := a13
  have R1 : ∀ v, RQ th (vs (tI (tI s 1 0) 5 (-1)) f g (vfault (xM X) (xC X)).2) (xM X, xC X, (vfault (xM X) (xC X)).2, xSt X, xA X, xHe X, xCu X, xN X, xR X, xT X) ∧ RQ th (tI (vs (tI (tI s 1 0) 5 (-1)) f g (vfault (xM X) (xC X)).2) 2 (Int32.ofNat v)) (xM X, xC X, (vfault (xM X) (xC X)).2, v, xA X, xHe X, xCu X, xN X, xR X, xT X) := by
    intro v
    exact ⟨⟨sl, ⟨a1, a2, a3, a4, a5, a6, a7, a8, a9, a10, a11, rfl, a13, a14, a15, a16, a17, a18, a19, a20, a21, a22⟩, RMr_keep Rr rfl rfl rfl rfl rfl rfl rfl, Rt.keep ((tmk_A _ _ (by decide)).trans (tmk_A _ _ (by decide))) rfl rfl⟩, ⟨sl, ⟨a1, a2, a3, a4, a5, a6, a7, a8, a9, a10, a11, rfl, rfl, a14, a15, a16, a17, a18, a19, a20, a21, a22⟩, RMr_keep Rr rfl rfl rfl rfl rfl rfl rfl, Rt.keep ((tmk_A _ _ (by decide)).trans (tmk_A _ _ (by decide))) rfl rfl⟩⟩
  rw [e5, show ((Int32.ofNat (vfault (xM X) (xC X)).1 = 0) = ((vfault (xM X) (xC X)).1 = 0)) from n_eq (by omega) (by decide), show ((Int32.ofNat (xSt X) = 0) = (xSt X = 0)) from n_eq (by omega) (by decide), p_I]
  unfold xVer at k
  refine ⟨fun z => ⟨fun z2 => ?_, fun z2 => ?_⟩, fun z => ?_⟩
  · rw [if_pos ⟨z, z2⟩] at k
    exact k _ (R1 1).2
  · rw [if_neg (fun q => z2 q.2)] at k
    exact k _ (R1 1).1
  · rw [if_neg (fun q => z q.1)] at k
    exact k _ (R1 1).1
theorem xVer_ok (O : xOk N X) : xOk N (xVer X) := by
  obtain ⟨o1, o2, o3, o4, o5, o6, o7, o8⟩ := O
  by_cases h : (vfault (xM X) (xC X)).1 = 0 ∧ xSt X = 0
  · have e : xSt (xVer X) = 1 := if_pos h
    obtain ⟨t0, r0⟩ := o7 h.2
    obtain ⟨H, V⟩ := vfault_aV o1 h.1
    refine ⟨o1, by rw [e]; decide, o3, o4, o5, o6, fun z => (by rw [e] at z; cases z), fun _ => ⟨H, V, fun a T hT => ?_, fun r hr => ?_, fun z => (by rw [e] at z; cases z)⟩⟩
    · have hT : xT X a = some T := hT
      rw [t0 a] at hT
      cases hT
    · have hr : xR X = some r := hr
      rw [r0] at hr
      cases hr
  · have e : xSt (xVer X) = xSt X := if_neg h
    refine ⟨o1, by rw [e]; exact o2, o3, o4, o5, o6, fun z => o7 (by rw [e] at z; exact z), fun z => ?_⟩
    obtain ⟨H, v1, v2, v3, v4⟩ := o8 (by rw [e] at z; exact z)
    exact ⟨H, v1, v2, fun r hr => (by rw [e]; exact v3 r hr), fun z2 => v4 (by rw [e] at z2; exact z2)⟩
theorem l_steps (C : CW th u w X) (hd : Nat.ble 6 d = true) (a1 : Int32) (k : lres th (uX u) w X (if a1.toInt < 0 ∨ 5 < a1.toInt then 1 else 0) (stv X a1.toInt) F) : zGo (d + 1) m_L_steps 0 [.ref 1000, .int a1, .ref 1076, zJ] [] (yz w) (zKi F) := by
  obtain ⟨⟨b1, b2, b3, b4, b5, b6, b7, b8, b9, b10, b11, b12, b13, b14, b15, b16, b17, b18, b19, b20, b21, b22, b23⟩, r2, r3⟩ := id C
  refine B_L_steps_0 _ (B_X8_steps_0 hd _ ?_)
  rw [b4, b16, b17, b18, b19, b20]
  refine ⟨fun z => ?_, fun z => ?_, fun z => ?_, fun z => ?_, fun z => ?_, fun z => ?_, fun z => ?_⟩
  · rw [if_pos z] at k
    exact ⟨rfl, k.tw (by decide) C (mkp.rf w)⟩
  all_goals
    rw [if_neg (by omega), z] at k
    exact k.ok C (mkp.rf w)
theorem q_steps {G : Int64 → zm → Prop} (R : RQ th s X) (a1 : Int32) (k : mresL th c X (if a1.toInt < 0 ∨ 5 < a1.toInt then 1 else 0) (stv X a1.toInt) G) : zGo (d + 1) m_X9_steps 0 [.ref 1031, .int a1] [] (yz (put c s)) (zKl G) := by
  obtain ⟨sl, ⟨b1, b2, b3, b4, b5, b6, b7, b8, b9, b10, b11, b12, b13, b14, b15, b16, b17, b18, b19, b20, b21, b22⟩, Rr, Rt⟩ := id R
  have e4 : yL (put c s) 1031 13 = (xA X).2.2.2.1 := b4
  have e5 : yL (put c s) 1031 14 = xN X 0 := b16
  have e6 : yL (put c s) 1031 15 = xN X 1 := b17
  have e7 : yL (put c s) 1031 16 = xN X 2 := b18
  have e8 : yL (put c s) 1031 17 = xN X 3 := b19
  have e9 : yL (put c s) 1031 18 = xN X 4 := b20
  have go : ∀ s0 : Int32, (if a1.toInt < 0 ∨ 5 < a1.toInt then 1 else 0) = s0 → zGo (d + 1) m_X9_steps 15 [.ref 1031, .int a1] [.int s0, .ref 1031] (yz (put c s)) (zKl G) := by
    intro s0 hs
    rw [hs] at k
    refine B_X9_steps_15 _ _ ?_
    rw [e4, e5, e6, e7, e8, e9, p_I]
    have k1 : ∀ vm, (s0 = 0 → vm = stv X a1.toInt) → G vm (put c (tI s 1 s0)) := fun vm h => k _ vm (R.thr s0) rfl h
    refine ⟨fun z => k1 _ (fun q => ?_), fun z => k1 _ (fun _ => ?_), fun z => k1 _ (fun _ => ?_), fun z => k1 _ (fun _ => ?_), fun z => k1 _ (fun _ => ?_), fun z => k1 _ (fun _ => ?_), fun z => k1 _ (fun _ => ?_)⟩
    · rw [if_pos z, q] at hs
      exact absurd hs (by decide)
    all_goals
      rw [z]
      rfl
  refine B_X9_steps_0 _ (B_X9_in_0 _ _ _ ?_)
  have h0 : (a1 < 0) = (a1.toInt < 0) := propext (Int32.lt_iff_toInt_lt)
  have h5 : ((5 : Int32) < a1) = (5 < a1.toInt) := propext (Int32.lt_iff_toInt_lt)
  rw [h0, h5]
  refine ⟨fun z => ⟨fun _ => go 1 (if_pos (Or.inl z)), fun q => absurd rfl q⟩, fun z => ⟨fun z2 => ⟨fun _ => go 1 (if_pos (Or.inr z2)), fun q => absurd rfl q⟩, fun z2 => ⟨fun q => absurd q (by decide), fun _ => go 0 (if_neg (fun q => q.elim z z2))⟩⟩⟩
/-! recording -/
def recv (X : xs) : Int32 := match xR X with
  | none => -1
  | some r => match r.2.1 with
    | none => Int32.ofNat r.1
    | some _ => Int32.ofNat r.1 + 1000
theorem l_recording (C : CW th u w X) (k : F (recv X) w) : zGo (d + 1) m_X8_recording 0 [.ref 1000] [] (yz w) (zKi F) := by
  refine B_X8_recording_0 ?_
  refine c4_isOn C.2.1 ?_
  rw [if01]
  unfold recv at k
  cases h : xR X with
  | none =>
    rw [h] at k
    exact ⟨fun _ => k, fun z => absurd rfl z⟩
  | some r =>
    rw [h] at k
    have rr := C.2.1
    rw [h] at rr
    refine ⟨fun z => absurd (show true = false from z) (by decide), fun _ => ?_⟩
    refine c4_isOfBridge (X := X) rr ?_
    rw [if01, rr.2.2.1]
    dsimp only at k
    cases h2 : r.2.1 with
    | none =>
      rw [h2] at k
      exact ⟨fun _ => k, fun z => absurd rfl z⟩
    | some j =>
      rw [h2] at k
      exact ⟨fun z => absurd (show true = false from z) (by decide), fun _ => k⟩
theorem q_recording (R : RQ th s X) (k : ∀ s', RQ th s' X → F (recv X) (put c s')) : zGo d m_X9_recording 0 [.ref 1031] [] (yz (put c s)) (zKi F) := by
  obtain ⟨sl, Ra, Rr, Rt⟩ := id R
  refine B_X9_recording_0 ?_
  rw [p_I]
  unfold recv at k
  have k := k _ (R.thr 0)
  cases h : xR X with
  | none =>
    rw [h] at Rr k
    have e : yI (put c s) 1031 42 = -1 := Rr
    rw [e]
    exact ⟨fun _ => k, fun z => absurd (show (-1 : Int32) < 0 by decide) z⟩
  | some r =>
    rw [h] at Rr k
    dsimp only at k
    have e : yI (put c s) 1031 42 = Int32.ofNat r.1 := Rr.2.1
    rw [e, n_neg (by have := Rr.1; omega)]
    refine ⟨fun z => z.elim, fun _ => ?_⟩
    have r3 := Rr.2.2.1
    cases h2 : r.2.1 with
    | none =>
      rw [h2] at k r3
      have e3 : yI (put c s) 1031 43 = -1 := r3
      rw [e3]
      exact ⟨fun _ => k, fun z => absurd (show (-1 : Int32) < 0 by decide) z⟩
    | some j =>
      rw [h2] at k r3
      obtain ⟨-, t, t1, -, t3, -⟩ := r3
      have e3 : yI (put c s) 1031 43 = Int32.ofNat t := t3
      rw [e3, n_neg (by omega)]
      exact ⟨fun z => z.elim, fun _ => k⟩
end CALLV
