/-! the class's plain step is the pure one -/
section PLC
variable {d : Nat} {e w : zm} {u : Nat × Nat} {th : Nat} {X : xs} {N : Nat} {H : Nat → Option Nat}
theorem rOk.tr {cd : Nat → Int32} {r : rk} (h : rOk cd H X r) {k : Nat} (hk : r.2.1 = some k) : ∃ T, xT X r.1 = some T ∧ k < pGs cd (tP T) ∧ tBr T k = none ∧ tNb T < 4 ∧ pAd r.2.2 0 = pAd (tP T) (pGa cd (tP T) k) := by
  have := h.2.2.2.2.2
  rw [hk] at this
  exact this
theorem c8_stepPlainly {F : zm → Prop} (R : RC e u th w X) (G : xGood N H X) (hN : N < 2000000000) (hr : ∀ r, xR X = some r → pLn r.2.2 < 48 ∧ ¬ aop (xC X) (xPc X) = 0) (k : ∀ w', RC e u th w' (xStep th X) → F w') : zGo (d + 5) m_X8_stepPlainly 0 [.ref 1000, zJ, zJ] [] (yz w) (zKv F) := by
  have hpm := G.lt
  have hm : xM X ≤ 200 := R.1.2.2.2.2.2.2.2.2.1
  have g89 : ∀ (w2 : zm) (Y : xs) (s0 : Int32), RC e u th w2 Y → xC Y = xC X → xM Y = xM X → (aJmp (aop (xC X) (xPc X)) → xPc Y < xM Y) → (xA Y).1 < 2147483648 → (∀ w', RC e u th w' (xWarm th (xPc X) Y) → F w') → zGo (d + 5) m_X8_stepPlainly 89 [.ref 1000, .int (Int32.ofNat (xPc X)), .int s0] [] (yz w2) (zKv F) := by
    intro w2 Y s0 RY hC hM hp hp2 kY
    refine B_X8_stepPlainly_89 _ _ ?_
    refine c0_op RY.code (show xPc X < xM Y by omega) ?_
    rw [hC, (aop_eq (xC X) (xPc X)).1]
    have h63 := (aop_eq (xC X) (xPc X)).2
    refine c8_isJump (by omega) ?_
    unfold xWarm at kY
    rw [hC] at kY
    by_cases c : aop (xC X) (xPc X) = 21 ∨ aop (xC X) (xPc X) = 22 ∨ aop (xC X) (xPc X) = 23
    · rw [if_pos c, RY.1.1, n_lt (by omega) hp2]
      refine ⟨fun z => absurd z (by decide), fun _ => ⟨fun z => ?_, fun z => ?_⟩⟩
      · rw [if_neg (fun q : xBack (xC X) (xPc X) (xPc Y) => by
          have : xPc Y ≤ xPc X := q.2
          have : xPc X < xPc Y := z
          omega)] at kY
        exact kY _ RY
      · rw [if_pos (show xBack (xC X) (xPc X) (xPc Y) from ⟨c, Nat.le_of_not_lt z⟩)] at kY
        exact c8_warm RY (hp c) kY
    · rw [if_neg c]
      refine ⟨fun _ => ?_, fun z => absurd rfl z⟩
      rw [if_neg (fun q : xBack (xC X) (xPc X) (xPc Y) => c q.1)] at kY
      exact kY _ RY
  refine B_X8_stepPlainly_0 ?_
  refine c1_brk R G ?_
  have if01' : ∀ b : Bool, ((if b = true then (1 : Int32) else 0) = 0) = (b = false) := if01
  rw [if01']
  unfold xStep at k
  have ha1 : yI w 1007 6 = Int32.ofNat (xPc X) := R.1.1
  refine ⟨fun hb0 => ?_, fun hb1 => ?_⟩
  · have hb : ¬ xBrk X = true := by rw [hb0]; decide
    rw [if_neg hb] at k
    have hv := G.1.2.2.2 _ _ G.2.2.2.1
    have go59 : ∀ s0 : Int32, (s0 = 0 ∨ s0 = 1) → ((aop (xC X) (xPc X) = 22 ∨ aop (xC X) (xPc X) = 23) → (s0 = 1 ↔ xCh X = 0)) → zGo (d + 5) m_X8_stepPlainly 59 [.ref 1000, .int (Int32.ofNat (xPc X)), zJ] [.int s0] (yz w) (zKv F) := by
      intro s0 h01 hs
      refine B_X8_stepPlainly_59 _ _ ?_
      refine c1_stepw R G hb hN ?_
      by_cases h0 : aop (xC X) (xPc X) = 0
      · rw [if_pos h0] at k ⊢
        have hn : xR X = none := by
          cases h : xR X with
          | none => rfl
          | some r => exact absurd h0 (hr r h).2
        have R1 : RC e u th (putm (yuI w 1007 5 3) (astep (xC X) (xA X))) (xsSt (xsA X (astep (xC X) (xA X))) 3) := (R.st 3 rfl).mach _
        refine c4_isOn (X := xsSt (xsA X (astep (xC X) (xA X))) 3) R1.2.1 ?_
        rw [if01, show xR (xsSt (xsA X (astep (xC X) (xA X))) 3) = none from hn]
        refine ⟨fun _ => ?_, fun z => absurd rfl z⟩
        have e1 : (astep (xC X) (xA X)).1 = (xA X).1 := by
          show anext (aop (xC X) (xPc X)) (aarg (xC X) (xA X).1) (xA X).1 (xA X).2.1 (xA X).2.2.2.2.1 = (xA X).1
          rw [h0]
          rfl
        refine g89 _ _ _ R1 rfl rfl (fun z => by rw [h0] at z; exact absurd z (by unfold aJmp; decide)) (by show (astep (xC X) (xA X)).1 < _; rw [e1]; have : (xA X).1 < xM X := hpm; omega) ?_
        rw [show xWarm th (xPc X) (xsSt (xsA X (astep (xC X) (xA X))) 3) = xsSt (xsA X (astep (xC X) (xA X))) 3 from by
          unfold xWarm
          refine if_neg (fun z => ?_)
          have : aJmp (aop (xC X) (xPc X)) := z.1
          rw [h0] at this
          exact absurd this (by unfold aJmp; decide)]
        exact k
      · rw [if_neg h0] at k ⊢
        have R1 : RC e u th (putm w (astep (xC X) (xA X))) (xsA X (astep (xC X) (xA X))) := R.mach _
        have hh := G.1.htm G.2.2.2.1 h0
        have hlt := (G.1.2.2.2 _ _ hh).1
        refine c4_isOn (X := xsA X (astep (xC X) (xA X))) R1.2.1 ?_
        rw [if01]
        cases h : xR X with
        | none =>
          rw [show xR (xsA X (astep (xC X) (xA X))) = none from h]
          refine ⟨fun _ => ?_, fun z => absurd rfl z⟩
          have en : xNote X = xsA X (astep (xC X) (xA X)) := by
            unfold xNote
            rw [h]
            show (_, _, _, _, _, _, _, _, none, _) = ((_, _, _, _, _, _, _, _, xR X, _) : xs)
            rw [h]
            rfl
          rw [en] at k
          exact g89 _ _ _ R1 rfl rfl (fun _ => hlt) (by show (astep (xC X) (xA X)).1 < _; omega) k
        | some r =>
          rw [show xR (xsA X (astep (xC X) (xA X))) = some r from h]
          refine ⟨fun z => absurd (show true = false from z) (by decide), fun _ => ?_⟩
          have hat := rOk_at G.1 (G.2.2.2.2.2 r h)
          refine c2_add (q := (astep (xC X) (xA X)).1) (ch := xCh X) R1 h (hr r h).1 h01 hat hs (fun w' R' => ?_)
          have en : xNote X = xsR (xsA X (astep (xC X) (xA X))) (some (r.1, r.2.1, pAdd r.2.2 (xCh X) (astep (xC X) (xA X)).1)) := by
            unfold xNote
            rw [h]
            rfl
          rw [en] at k
          exact g89 _ _ _ R' rfl rfl (fun _ => hlt) (by show (astep (xC X) (xA X)).1 < _; omega) k
    rw [ha1]
    refine c3_topw R hv.2.2.1 ?_
    have h22 : (aop (xC X) (xPc X) = 22 ∨ aop (xC X) (xPc X) = 23) → ¬ (xA X).2.1 = 0 ∧ xCh X = (if (xA X).2.2.2.2.1 ((xA X).2.1 - 1) = 0 then 0 else 1) := by
      intro z
      have : tk (aop (xC X) (xPc X)) = 1 := by
        rcases z with z | z <;> rw [z] <;> rfl
      have u4 : tk (aop (xC X) (xPc X)) ≤ (xA X).2.1 := hv.2.2.2.1
      refine ⟨by omega, ?_⟩
      unfold xCh achoice
      exact if_pos z
    refine ⟨fun c => go59 1 (Or.inr rfl) (fun z => ?_), fun c => go59 0 (Or.inl rfl) (fun z => ?_)⟩
    · obtain ⟨z1, z2⟩ := h22 z
      rw [if_neg z1] at c
      rw [z2, if_pos c]
      exact ⟨fun _ => rfl, fun _ => rfl⟩
    · obtain ⟨z1, z2⟩ := h22 z
      rw [if_neg z1] at c
      rw [z2, if_neg c]
      exact ⟨fun q => absurd q (by decide), fun q => absurd q (by decide)⟩
  · have hb : xBrk X = true := by
      cases h : xBrk X with
      | false => exact absurd h hb1
      | true => rfl
    rw [if_pos hb] at k
    have R4 : RC e u th (yuI w 1007 5 4) (xsSt X 4) := R.st 4 rfl
    refine c4_isOn (X := xsSt X 4) R4.2.1 ?_
    rw [if01]
    cases h : xR X with
    | none =>
      rw [show xR (xsSt X 4) = none from h]
      refine ⟨fun _ => k _ ?_, fun z => absurd rfl z⟩
      have : xCut (xsSt X 4) = xsSt X 4 := by
        unfold xCut
        rw [show xR (xsSt X 4) = none from h]
      rw [this]
      exact R4
    | some r =>
      rw [show xR (xsSt X 4) = some r from h]
      refine ⟨fun z => absurd (show true = false from z) (by decide), fun _ => ?_⟩
      have ro := G.2.2.2.2.2 r h
      exact c8_cutOff R4 h ro.2.1 (fun j hj => by obtain ⟨T, hT, -⟩ := ro.tr hj; exact ⟨T, hT⟩) k
end PLC
