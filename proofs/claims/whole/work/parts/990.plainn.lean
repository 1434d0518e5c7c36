/-! the model's plain step is the pure one -/
section PLN
variable {d : Nat} {c : zm} {s : ms} {th : Nat} {pn : Int32} {X : xs} {sl : Nat → Option Nat} {N : Nat} {H : Nat → Option Nat}
theorem anext_le {m : Nat} {cd : Nat → Int32} {pc h : Nat} (V : aV m cd H) (hh : H pc = some h) {stk : Nat → Int32} (hle : anext (aop cd pc) (aarg cd pc) pc h stk ≤ pc) (hj : aJmp (aop cd pc)) (hn : ¬ aop cd pc = 21) : aarg cd pc = Int32.ofNat (anext (aop cd pc) (aarg cd pc) pc h stk) := by
  obtain ⟨x, x1, x2, x3⟩ := (V.2.2.2 _ _ hh).2.2.2.2.2.2.1 hj
  have hm := V.2.1
  unfold anext at hle ⊢
  rw [if_neg hn] at hle ⊢
  by_cases e2 : aop cd pc = 22
  · rw [if_pos e2] at hle ⊢
    by_cases z : stk (h - 1) = 0
    · rw [if_pos z] at hle
      omega
    · rw [if_neg z, x2, n_cl (by omega)]
  · rw [if_neg e2] at hle ⊢
    have e3 : aop cd pc = 23 := by
      rcases hj with j | j | j
      · exact absurd j hn
      · exact absurd j e2
      · exact j
    rw [if_pos e3] at hle ⊢
    by_cases z : stk (h - 1) = 0
    · rw [if_pos z, x2, n_cl (by omega)]
    · rw [if_neg z] at hle
      omega
/-- from where it is known whether the step went back -/
theorem c9_plain162 {F : zm → Prop} (R : RM th 0 s X) (G : xGood N H X) {was : Nat} {a1 a2 s0 : Int32} (h0 : (s0 = 0) = ¬ xBack (xC X) was (xPc X)) (hr : ∀ r, xR X = some r → 0 < pLn r.2.2)
    (k : ∀ s', RM th 0 s' (xEnd (xWarm th was X)) → F (put c s')) : zGo (d + 6) m_X9_plainStep 162 [.ref 1031, .int a1, .int a2, zJ] [.int s0] (yz (put c s)) (zKv F) := by
  have hpm := G.lt
  have hm := G.1.2.1
  have go180 : ∀ s1, RM th 0 s1 (if xBack (xC X) was (xPc X) then xHeat X else X) → zGo (d + 6) m_X9_plainStep 180 [.ref 1031, .int a1, .int a2, .int s0] [] (yz (put c s1)) (zKv F) := by
    intro s1 R1
    generalize hY : (if xBack (xC X) was (xPc X) then xHeat X else X) = Y at R1
    have kR : xR Y = xR X := by rw [← hY]; split <;> rfl
    have kA : xA Y = xA X := by rw [← hY]; split <;> rfl
    have kT : xT Y = xT X := by rw [← hY]; split <;> rfl
    have kM : xM Y = xM X := by rw [← hY]; split <;> rfl
    have kC : xC Y = xC X := by rw [← hY]; split <;> rfl
    have GY : xGood N H Y := by
      rw [← hY]
      split
      · exact G.heat _
      · exact G
    have hW : xWarm th was X = if xBack (xC X) was (xPc X) then xHot th Y else Y := by
      unfold xWarm
      rw [← hY]
      split <;> rfl
    have hpc : xPc Y = xPc X := by unfold xPc; rw [kA]
    have hon := R1.on
    have e6 : yI (put c s1) 1031 6 = Int32.ofNat (xPc Y) := by
      obtain ⟨sl, Ra, -⟩ := R1
      exact Ra.1
    have go205 : (∀ r, xR Y = some r → ¬ r.1 = xPc Y) → zGo (d + 6) m_X9_plainStep 205 [.ref 1031, .int a1, .int a2, .int s0] [] (yz (put c s1)) (zKv F) := by
      intro hno
      refine B_X9_plainStep_205 _ _ _ ?_
      rw [h0, e6, n_cl (by omega)]
      obtain ⟨sl, Ra, Rr, Rt⟩ := id R1
      have e37 : yA (put c s1) 1037 = xHe Y := Ra.2.2.2.2.2.2.2.2.2.2.2.2.2.1
      have e38 : yA (put c s1) 1038 = xCu Y := Ra.2.2.2.2.2.2.2.2.2.2.2.2.2.2.1
      have e0 : yI (put c s1) 1031 0 = Int32.ofNat th := Ra.2.2.2.2.2.2.2.2.2.2.2.2.2.2.2.2.2.2.2.2.1
      rw [e37, e0, show (yI (put c s1) 1031 42 < 0) = (xR Y = none) from hon]
      have fin : xWarm th was X = Y → F (put c s1) := by
        intro z
        rw [z] at k
        have : xEnd Y = Y := by
          unfold xEnd
          cases h : xR Y with
          | none => rfl
          | some r =>
            dsimp only
            exact if_neg (fun q => hno r h q.1)
        rw [this] at k
        exact k s1 R1
      refine ⟨fun nb => fin (by rw [hW, if_neg nb]), fun hb => ⟨n_in (by omega) (by decide), fun c1 => fin ?_, fun c1 => ⟨fun c2 => ?_, fun c2 => fin ?_⟩⟩⟩
      · have hb : xBack (xC X) was (xPc X) := Decidable.of_not_not hb
        rw [hW, if_pos hb]
        unfold xHot
        rw [if_neg (by
          unfold xWants
          rw [decide_eq_true c1]
          exact fun z => by cases z)]
      · have hb : xBack (xC X) was (xPc X) := Decidable.of_not_not hb
        rw [hW, if_pos hb] at k fin
        have w1 : decide (xHe Y (xPc Y) < Int32.ofNat th) = false := decide_eq_false c1
        have w2 : (xR Y).isNone = true := by rw [c2]; rfl
        refine c9_slot Rt (show xPc Y < 200 by omega) (fun t T t1 t2 t3 t4 => ?_) (fun t3 => ?_)
        · rw [n_neg (by omega)]
          refine ⟨fun z => z.elim, fun _ => fin ?_⟩
          unfold xHot
          rw [if_neg (by
            unfold xWants
            rw [t3]
            rw [show (some T).isNone = false from rfl, Bool.and_false, Bool.false_and, Bool.false_and]
            exact fun z => by cases z)]
        · refine ⟨fun _ => ?_, fun z => absurd (show (-1 : Int32) < 0 by decide) z⟩
          rw [e6, n_cl (by omega), e38]
          have w3 : (xT Y (xPc Y)).isNone = true := by rw [t3]; rfl
          refine ⟨n_in (by omega) (by decide), fun c4 => ?_, fun c4 => fin ?_⟩
          · refine c9_many Rt ?_
            have m16 := RM.many16 Rt
            rw [n_lit 16, n_lt (by omega) (by decide)]
            refine ⟨fun c5 => ?_, fun c5 => fin ?_⟩
            · have hw : xWants th Y = true := by
                unfold xWants
                rw [w1, w2, w3, decide_eq_true c4, decide_eq_true c5]
                rfl
              unfold xHot at k
              rw [if_pos hw] at k
              rw [e6]
              refine c9_begin (gd := none) Ra Rt (show xPc Y < 200 by omega) rfl (fun s' b1 b2 b3 => ?_)
              have : xEnd (xBegin Y (xPc Y) none) = xBegin Y (xPc Y) none := if_neg (fun q => absurd q.2 (by show ¬ 0 < 0; decide))
              rw [this] at k
              exact k s' ⟨sl, b1, b2, b3⟩
            · unfold xHot
              rw [if_neg (by
                unfold xWants
                rw [decide_eq_false c5, Bool.and_false]
                exact fun z => by cases z)]
          · unfold xHot
            rw [if_neg (by
              unfold xWants
              rw [decide_eq_false c4, Bool.and_false, Bool.false_and]
              exact fun z => by cases z)]
      · have hb : xBack (xC X) was (xPc X) := Decidable.of_not_not hb
        rw [hW, if_pos hb]
        unfold xHot
        rw [if_neg (by
          unfold xWants
          have : (xR Y).isNone = false := by
            cases h : xR Y with
            | none => exact absurd h c2
            | some r => rfl
          rw [this, Bool.and_false, Bool.false_and, Bool.false_and, Bool.false_and]
          exact fun z => by cases z)]
    refine B_X9_plainStep_180 _ _ _ ?_
    rw [show (yI (put c s1) 1031 42 < 0) = (xR Y = none) from hon, e6]
    cases hR : xR Y with
    | none =>
      exact ⟨fun _ => go205 (fun r z => by rw [hR] at z; cases z), fun z => absurd rfl z⟩
    | some r =>
      refine ⟨fun z => (by cases z), fun _ => ?_⟩
      obtain ⟨sl, Ra, Rr, Rt⟩ := id R1
      rw [hR] at Rr
      have hr1 := Rr.1
      rw [show yI (put c s1) 1031 42 = Int32.ofNat r.1 from Rr.2.1, n_eq (by omega) (by omega)]
      refine ⟨fun z => ?_, fun z => go205 (fun r' h' => by rw [hR] at h'; cases h'; exact fun q => z q.symm)⟩
      refine c9_finish R1 GY hR (fun s' R' => k s' ?_)
      have hXr : xR X = some r := by rw [← kR]; exact hR
      have e1 : xWarm th was X = Y := by
        rw [hW]
        split
        · unfold xHot
          rw [if_neg (by
            unfold xWants
            rw [hR, show (some r).isNone = false from rfl, Bool.and_false, Bool.false_and, Bool.false_and, Bool.false_and]
            exact fun z => by cases z)]
        · rfl
      have e2 : xEnd Y = xFin Y := by
        unfold xEnd
        rw [hR]
        exact if_pos ⟨z.symm, hr r hXr⟩
      rw [e1, e2]
      exact R'
  refine B_X9_plainStep_162 _ _ _ ?_
  rw [h0]
  have e6 : yI (put c s) 1031 6 = Int32.ofNat (xPc X) := by
    obtain ⟨sl, Ra, -⟩ := R
    exact Ra.1
  have e37 : yA (put c s) 1037 = xHe X := by
    obtain ⟨sl, Ra, -⟩ := R
    exact Ra.2.2.2.2.2.2.2.2.2.2.2.2.2.1
  refine ⟨fun nb => ?_, fun hb => ?_⟩
  · refine go180 s ?_
    rw [if_neg nb]
    exact R
  · have hb : xBack (xC X) was (xPc X) := Decidable.of_not_not hb
    rw [e6, n_cl (by omega), e37, p_A _ _ _ _ _ rfl]
    refine ⟨n_in (by omega) (by decide), n_in (by omega) (by decide), go180 _ ?_⟩
    rw [if_pos hb]
    exact R.heat (xPc X) (xHe X (xPc X) + 1)
end PLN
