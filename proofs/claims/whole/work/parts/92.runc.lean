/-! the class's run is the pure one -/
section RUNC
variable {d : Nat} {e w : zm} {u : Nat × Nat} {th : Nat} {X : xs} {N : Nat} {H : Nat → Option Nat}
theorem xStep_cases (G : xGood N H X) (th : Nat) (hr : ∀ r, xR X = some r → pLn r.2.2 < 48 ∧ ¬ aop (xC X) (xPc X) = 0) : xR (xStep th X) = none ∨ xGood (N + 1) H (xStep th X) := by
  unfold xStep
  by_cases c : xBrk X = true
  · rw [if_pos c]
    exact Or.inl (xCut_R _)
  · rw [if_neg c]
    by_cases h0 : aop (xC X) (xPc X) = 0
    · rw [if_pos h0]
      left
      show xR X = none
      cases h : xR X with
      | none => rfl
      | some r => exact absurd h0 (hr r h).2
    · rw [if_neg h0]
      exact Or.inr ((G.note c h0 (fun r h => (hr r h).1)).warm th (xPc X))
theorem c8_end (R : RC e u th w X) (hG : xR X = none ∨ xGood N H X) (g : zm → Prop) (hg0 : ∀ w', RC e u th w' (xEnd X) → g w') (F0 : Int32 → zm → Prop) (hF0 : ∀ w', g w' → F0 0 w') (hF1 : ∀ w', zGo (d + 6) m_X8_endRecording 0 [.ref 1000, zJ] [] (yz w') (zKv g) → F0 1 w') : zGo (d + 6) m_X4_isBackAt 0 [.ref 1025, .int (Int32.ofNat (xPc X))] [] (yz w) (zKi F0) := by
  refine B_X4_isBackAt_0 _ ?_
  refine c4_isOn R.2.1 ?_
  rw [if01]
  unfold xEnd at hg0
  cases h : xR X with
  | none =>
    rw [h] at hg0
    exact ⟨fun _ => hF0 _ (hg0 _ R), fun z => absurd rfl z⟩
  | some r =>
    rw [h] at hg0
    dsimp only at hg0
    have G : xGood N H X := by
      rcases hG with hG | hG
      · rw [h] at hG; cases hG
      · exact hG
    have rr := R.2.1
    rw [h] at rr
    have hm : xM X ≤ 200 := R.1.2.2.2.2.2.2.2.2.1
    have hpm := G.lt
    have ro := G.2.2.2.2.2 r h
    have hl := ro.1
    have h1 := rr.1
    refine ⟨fun z => absurd (show true = false from z) (by decide), fun _ => ?_⟩
    rw [rr.2.2.1, rr.2.2.2.2.1, n_eq (by omega) (by omega), show ((0 : Int32) < Int32.ofNat (pLn r.2.2)) = (0 < pLn r.2.2) from n_lt (a := 0) (by decide) (by omega)]
    refine ⟨fun c1 => ⟨fun c2 => ?_, fun c2 => ?_⟩, fun c1 => ?_⟩
    · rw [if_pos ⟨c1, c2⟩] at hg0
      exact hF1 _ (c8_endRecording R G h hg0)
    · rw [if_neg (fun z => c2 z.2)] at hg0
      exact hF0 _ (hg0 _ R)
    · rw [if_neg (fun z => c1 z.1)] at hg0
      exact hF0 _ (hg0 _ R)
theorem xTurn0_none {left : Nat} {Y : xs} (h : ∀ T, xAt Y = some T → ¬ pLn (tP T) ≤ left) : xTurn0 th left Y = xPlain th left Y := by
  unfold xTurn0
  cases hA : xAt Y with
  | none => rfl
  | some T =>
    dsimp only
    rw [if_neg (h T hA)]
theorem xTurn0_some {left : Nat} {Y : xs} {T : tr} (hA : xAt Y = some T) (hl : pLn (tP T) ≤ left) : xTurn0 th left Y = if (xPass th left Y T).2.2 = true then ((xPass th left Y T).1, left - (xPass th left Y T).2.1) else xPlain th (left - (xPass th left Y T).2.1) (xPass th left Y T).1 := by
  unfold xTurn0
  rw [hA]
  dsimp only
  rw [if_pos hl]
theorem xEnd_none {Y : xs} (h : xR Y = none) : xEnd Y = Y := by
  unfold xEnd
  rw [h]
theorem c8_stop {F : Int32 → zm → Prop} {Z : Nat → zm → Prop} (hd : Nat.ble 6 (d + 7) = true) (R : RC e u th w X) (hs : ¬ xSt X = 2) (h4 : xSt X ≤ 4) {a1 a4 : Int32} {b2 : Int64} (k : F (Int32.ofNat (xSt X)) w) : zGo (d + 7) m_X8_run 55 [.ref 1000, .int a1, .long b2, zJ, .int a4] [] (yz w) (zXi F Z) := by
  have e5 : yI w 1007 5 = Int32.ofNat (xSt X) := R.1.2.2.2.2.2.2.2.2.2.2.2.2.1
  refine B_X8_run_55 hd _ _ _ ?_
  rw [e5, n_lit 2, n_eq (by omega) (by decide)]
  exact ⟨fun _ => ⟨fun _ => ⟨fun z => absurd z hs, fun _ => k⟩, fun _ => k⟩, fun _ => k⟩
theorem c8_turn {F : Int32 → zm → Prop} {Z : Nat → zm → Prop} (hd : Nat.ble 6 (d + 7) = true) (R : RC e u th w X) (G : xGood N H X) (hs : xSt X = 2) {left fuel turn : Nat} (hl : 0 < left) (hf : turn + left ≤ fuel) (hfu : fuel ≤ 100000) (hN : N + left + 48 < 2000000000)
    (k : ∀ w', RC e u th w' (xTurn th left X).1 → zGo (d + 7) m_X8_run 55 [.ref 1000, .int (Int32.ofNat fuel), .long (Int64.ofNat (N + left)), zJ, .int (Int32.ofNat (turn + 1))] [] (yz w') (zXi F Z)) :
    zGo (d + 7) m_X8_run 55 [.ref 1000, .int (Int32.ofNat fuel), .long (Int64.ofNat (N + left)), zJ, .int (Int32.ofNat turn)] [] (yz w) (zXi F Z) := by
  obtain ⟨G1, s1, a1, r1⟩ := G.due
  have go107 : ∀ (w1 : zm) (Y : xs) (N' : Nat), RC e u th w1 Y → (xR Y = none ∨ xGood N' H Y) → xEnd Y = (xTurn th left X).1 → zGo (d + 7) m_X8_run 107 [.ref 1000, .int (Int32.ofNat fuel), .long (Int64.ofNat (N + left)), zJ, .int (Int32.ofNat turn)] [] (yz w1) (zXi F Z) := by
    intro w1 Y N' RY hY eY
    refine B_X8_run_107 hd _ _ _ ?_
    rw [RY.1.1, show (Int32.ofNat turn + 1 : Int32) = Int32.ofNat (turn + 1) from n_add _ 1]
    refine c8_end RY hY _ (fun w' R' => ?_) _ (fun w' h => ⟨fun _ => h, fun z => absurd rfl z⟩) (fun w' h => ⟨fun z => absurd z (by decide), fun _ => h⟩)
    rw [eY] at R'
    exact k w' R'
  have plain : ∀ (w1 : zm) (Y : xs) (N' left' : Nat), RC e u th w1 Y → xGood N' H Y → N' + left' = N + left → (∀ r, xR Y = some r → pLn r.2.2 < 48 ∧ ¬ aop (xC Y) (xPc Y) = 0) → xEnd (xStep th Y) = (xTurn th left X).1 → zGo (d + 6) m_X8_stepPlainly 0 [.ref 1000, zJ, zJ] [] (yz w1) (zKv fun w5 => zGo (d + 7) m_X8_run 107 [.ref 1000, .int (Int32.ofNat fuel), .long (Int64.ofNat (N + left)), zJ, .int (Int32.ofNat turn)] [] (yz w5) (zXi F Z)) := by
    intro w1 Y N' left' RY GY hNY hrY eY
    exact c8_stepPlainly (d := d + 1) RY GY (by omega) hrY (fun w' R' => go107 w' _ (N' + 1) R' (xStep_cases GY th hrY) eY)
  have pass : ∀ w1, RC e u th w1 (xDue X) → zGo (d + 6) m_X8_passComesRound 0 [.ref 1000, .long (Int64.ofNat (N + left)), zJ, zJ, zJ, zJ] [] (yz w1) (zKi fun v4 w3 => ((v4 = 0 → zGo (d + 6) m_X8_stepPlainly 0 [.ref 1000, zJ, zJ] [] (yz w3) (zKv fun w5 => zGo (d + 7) m_X8_run 107 [.ref 1000, .int (Int32.ofNat fuel), .long (Int64.ofNat (N + left)), zJ, .int (Int32.ofNat turn)] [] (yz w5) (zXi F Z))) ∧ (¬ v4 = 0 → zGo (d + 7) m_X8_run 107 [.ref 1000, .int (Int32.ofNat fuel), .long (Int64.ofNat (N + left)), zJ, .int (Int32.ofNat turn)] [] (yz w3) (zXi F Z)))) := by
    intro w1 R1
    have hs1 : xSt (xDue X) = 2 := s1.trans hs
    have eT : xTurn th left X = xTurn0 th left (xDue X) := rfl
    generalize xDue X = Y at R1 G1 r1 hs1 eT
    refine c8_pass R1 G1 hs1 hl hN (fun hA => ?_) (fun T hA hl2 w' R' => ?_)
    · refine ⟨fun _ => plain w1 Y N left R1 G1 rfl r1 ?_, fun z => absurd rfl z⟩
      rw [eT, xTurn0_none hA]
      rfl
    · obtain ⟨q1, q2, q3, q4⟩ := G1.pass th hs1 hA hl2
      rw [xTurn0_some hA hl2] at eT
      generalize xPass th left Y T = Q at *
      cases hb : Q.2.2 with
      | true =>
        rw [hb, if_pos rfl] at eT
        refine ⟨fun z => absurd z (by decide), fun _ => ?_⟩
        have hn := (q3 hb).2.2
        exact go107 w' Q.1 0 R' (Or.inl hn) (by rw [eT, xEnd_none hn])
      | false =>
        rw [hb, if_neg (by decide)] at eT
        obtain ⟨z1, z2⟩ := q4 hb
        refine ⟨fun _ => plain w' Q.1 (N + Q.2.1) (left - Q.2.1) R' q1 (by omega) z2 ?_, fun z => absurd rfl z⟩
        rw [eT]
        rfl
  have e5 : yI w 1007 5 = Int32.ofNat (xSt X) := R.1.2.2.2.2.2.2.2.2.2.2.2.2.1
  have hst : yL w 1007 8 = Int64.ofNat N := R.1.2.2.2.1.trans G.2.1
  refine B_X8_run_55 hd _ _ _ ?_
  rw [e5, hs, hst, n_lt (by omega) (by omega), cmp_neg (by omega) (by omega)]
  refine ⟨fun _ => ⟨fun _ => ⟨fun _ => ?_, fun z => absurd rfl z⟩, fun z => absurd (by omega) z⟩, fun z => absurd (by omega) z⟩
  refine c8_cutIsDue (d := d + 4) R G.lt (fun r h => (G.2.2.2.2.2 r h).1) (fun hD => ⟨fun _ => ?_, fun z => absurd rfl z⟩) (fun r hr hD => ⟨fun z => absurd z (by decide), fun _ => ?_⟩)
  · exact pass w (by rw [hD]; exact R)
  · have ro := G.2.2.2.2.2 r hr
    refine c8_cutOff (d := d + 5) R hr ro.2.1 (fun j hj => by obtain ⟨T, hT, -⟩ := ro.tr hj; exact ⟨T, hT⟩) (fun w' R' => pass w' (by rw [hD]; exact R'))
theorem c8_loop {F : Int32 → zm → Prop} {Z : Nat → zm → Prop} (hd : Nat.ble 6 (d + 7) = true) {fuel : Nat} (hfu : fuel ≤ 100000) : ∀ (f left turn N : Nat) (w : zm) (X : xs), left ≤ f → RC e u th w X → ((xSt X = 2 ∧ xGood N H X) ∨ (¬ xSt X = 2 ∧ xSt X ≤ 4)) → turn + left ≤ fuel → N + left + 48 < 2000000000 → (∀ w', RC e u th w' (xRun th f left X) → F (Int32.ofNat (xSt (xRun th f left X))) w') → zGo (d + 7) m_X8_run 55 [.ref 1000, .int (Int32.ofNat fuel), .long (Int64.ofNat (N + left)), zJ, .int (Int32.ofNat turn)] [] (yz w) (zXi F Z) := by
  intro f
  induction f with
  | zero =>
    intro left turn N w X hl R hX ht hN k
    have k := k w R
    rcases hX with ⟨hs, G⟩ | ⟨hs, h4⟩
    · have e5 : yI w 1007 5 = Int32.ofNat (xSt X) := R.1.2.2.2.2.2.2.2.2.2.2.2.2.1
      have hst : yL w 1007 8 = Int64.ofNat N := R.1.2.2.2.1.trans G.2.1
      refine B_X8_run_55 hd _ _ _ ?_
      rw [e5, hst, cmp_neg (by omega) (by omega)]
      exact ⟨fun _ => ⟨fun z => absurd z (by omega), fun _ => k⟩, fun _ => k⟩
    · exact c8_stop hd R hs h4 k
  | succ f ih =>
    intro left turn N w X hl R hX ht hN k
    unfold xRun at k
    rcases hX with ⟨hs, G⟩ | ⟨hs, h4⟩
    · by_cases h0 : left = 0
      · rw [if_pos (Or.inl h0)] at k
        have k := k w R
        have e5 : yI w 1007 5 = Int32.ofNat (xSt X) := R.1.2.2.2.2.2.2.2.2.2.2.2.2.1
        have hst : yL w 1007 8 = Int64.ofNat N := R.1.2.2.2.1.trans G.2.1
        refine B_X8_run_55 hd _ _ _ ?_
        rw [e5, hst, cmp_neg (by omega) (by omega)]
        exact ⟨fun _ => ⟨fun z => absurd z (by omega), fun _ => k⟩, fun _ => k⟩
      · rw [if_neg (fun z => z.elim h0 (fun q => q hs))] at k
        refine c8_turn hd R G hs (by omega) ht hfu hN (fun w' R' => ?_)
        obtain ⟨t1, t2⟩ := G.turn th (left := left) hs (by omega)
        have hb : N + left = N + left - (xTurn th left X).2 + (xTurn th left X).2 := by omega
        rw [hb]
        refine ih (xTurn th left X).2 (turn + 1) (N + left - (xTurn th left X).2) w' (xTurn th left X).1 (by omega) R' ?_ (by omega) (by omega) k
        rcases t2 with ⟨z1, z2⟩ | ⟨z1, M, z2, z3⟩
        · exact Or.inl ⟨z1, z2⟩
        · exact Or.inr ⟨z1, z3.2.1⟩
    · rw [if_pos (Or.inr hs)] at k
      exact c8_stop hd R hs h4 (k w R)
end RUNC
