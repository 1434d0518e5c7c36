/-! the class does a plain step -/
section PLAIN
variable {d : Nat} {e w : zm} {u : Nat × Nat} {th : Nat} {X : xs} {N : Nat} {H : Nat → Option Nat}
theorem RC.many (R : RC e u th w X) : yI w 1022 3 = Int32.ofNat (xMany X) ∧ xMany X ≤ 16 := by
  obtain ⟨nT, tp, loc, sc, O, r2, r3, -⟩ := R.2.2.1
  have := O.1
  exact ⟨r2, by omega⟩
theorem c8_cutIsDue {F : Int32 → zm → Prop} (R : RC e u th w X) (hp : xPc X < xM X) (hl : ∀ r, xR X = some r → pLn r.2.2 ≤ 48) (k0 : xDue X = X → F 0 w) (k1 : ∀ r, xR X = some r → xDue X = xCut X → F 1 w) : zGo (d + 2) m_X8_cutIsDue 0 [.ref 1000] [] (yz w) (zKi F) := by
  refine B_X8_cutIsDue_0 ?_
  refine c4_isOn R.2.1 ?_
  rw [if01]
  unfold xDue at k0 k1
  cases h : xR X with
  | none =>
    rw [h] at k0
    exact ⟨fun _ => k0 rfl, fun z => absurd rfl z⟩
  | some r =>
    rw [h] at k0 k1
    dsimp only at k0 k1
    have rr := R.2.1
    rw [h] at rr
    have hl' := hl r h
    refine ⟨fun z => absurd (show true = false from z) (by decide), fun _ => ?_⟩
    rw [rr.2.2.2.2.1, n_lit 48, n_lt (by omega) (by decide), R.1.1]
    refine ⟨fun z => ?_, fun z => k1 r rfl (if_pos (Or.inl (by omega)))⟩
    refine c0_op R.code hp ?_
    rw [(aop_eq (xC X) (xA X).1).1, show ((Int32.ofNat (aop (xC X) (xA X).1) = 0) = (aop (xC X) (xA X).1 = 0)) from n_eq (by have := (aop_eq (xC X) (xA X).1).2; omega) (by decide)]
    exact ⟨fun z0 => k1 r rfl (if_pos (Or.inr z0)), fun z0 => k0 (if_neg (fun z1 => z1.elim (fun q => by omega) z0))⟩
theorem c8_warm {F : zm → Prop} (R : RC e u th w X) (hp : xPc X < xM X) (k : ∀ w', RC e u th w' (xHot th (xHeat X)) → F w') : zGo (d + 3) m_X8_warm 0 [.ref 1000, .int (Int32.ofNat (xPc X)), zJ] [] (yz w) (zKv F) := by
  have hm : xM X ≤ 200 := R.1.2.2.2.2.2.2.2.2.1
  have R1 : RC e u th (yuA w 1001 (xPc X) (xHe X (xPc X) + 1)) (xHeat X) := R.heat (xPc X) (xHe X (xPc X) + 1)
  have hh : yA w 1001 = xHe X := R.1.2.2.2.2.2.2.2.2.2.2.2.2.2.1
  have hc : yA w 1002 = xCu X := R.1.2.2.2.2.2.2.2.2.2.2.2.2.2.2.1
  have go : ∀ (s0 : Int32), ((s0 = 0) = (xCu X (xPc X) < 3)) → zGo (d + 3) m_X8_warm 37 [.ref 1000, .int (Int32.ofNat (xPc X)), zJ] [.int s0] (yz (yuA w 1001 (xPc X) (xHe X (xPc X) + 1))) (zKv F) := by
    intro s0 hs
    have hth : yI (yuA w 1001 (xPc X) (xHe X (xPc X) + 1)) 1000 0 = Int32.ofNat th := R1.1.2.2.2.2.2.2.2.2.2.2.2.2.2.2.2.2.2.2.2.2.1
    have hhe : yA (yuA w 1001 (xPc X) (xHe X (xPc X) + 1)) 1001 = xHe (xHeat X) := R1.1.2.2.2.2.2.2.2.2.2.2.2.2.2.1
    refine B_X8_warm_37 _ _ ?_
    rw [n_cl (by omega), hth, hhe]
    unfold xHot at k
    refine ⟨n_in (by omega) (by decide), fun c1 => ?_, fun c1 => ?_⟩
    · rw [if_neg (by
        unfold xWants
        rw [decide_eq_true (show xHe (xHeat X) (xPc (xHeat X)) < Int32.ofNat th from c1)]
        exact fun z => by cases z)] at k
      exact k _ R1
    · refine c4_isOn (X := xHeat X) R1.2.1 ?_
      rw [if01]
      have w1 : decide (xHe (xHeat X) (xPc (xHeat X)) < Int32.ofNat th) = false := decide_eq_false c1
      refine ⟨fun c2 => ?_, fun c2 => ?_⟩
      · have w2 : (xR (xHeat X)).isNone = true := by
          cases h : xR (xHeat X) with
          | none => rfl
          | some r => rw [h] at c2; cases c2
        refine c6_find (by omega) ?_
        cases hT : xT X (xPc X) with
        | none =>
          rw [R1.none (show xPc X < 200 by omega) hT]
          have w3 : (xT (xHeat X) (xPc (xHeat X))).isNone = true := by
            show (xT X (xPc X)).isNone = true
            rw [hT]
            rfl
          refine ⟨fun _ => ?_, fun q hq => (by cases hq)⟩
          rw [hs]
          refine ⟨fun c4 => ?_, fun c4 => ?_⟩
          · obtain ⟨m1, m2⟩ := R1.many
            have m2 : xMany (xHeat X) ≤ 16 := m2
            rw [m1, n_lit 16, n_lt (show xMany (xHeat X) < 2147483648 by omega) (by decide)]
            refine ⟨fun c5 => ?_, fun c5 => ?_⟩
            · rw [if_pos (by
                unfold xWants
                rw [w1, w2, w3, decide_eq_true (show xCu (xHeat X) (xPc (xHeat X)) < 3 from c4), decide_eq_true (show xMany (xHeat X) < 16 from c5)]
                rfl)] at k
              exact c8_beginRecording (X := xHeat X) (gd := none) R1 rfl (show xPc X < 200 by omega) (fun k z => by cases z) k
            · rw [if_neg (by
                unfold xWants
                rw [decide_eq_false (show ¬ xMany (xHeat X) < 16 from c5), Bool.and_false]
                exact fun z => by cases z)] at k
              exact k _ R1
          · rw [if_neg (by
              unfold xWants
              rw [decide_eq_false (show ¬ xCu (xHeat X) (xPc (xHeat X)) < 3 from c4), Bool.and_false, Bool.false_and]
              exact fun z => by cases z)] at k
            exact k _ R1
        | some T =>
          obtain ⟨p, p1, -⟩ := R1.at (show xPc X < 200 by omega) hT
          rw [p1]
          refine ⟨fun z => (by cases z), fun q hq => ?_⟩
          rw [if_neg (by
            unfold xWants
            rw [show (xT (xHeat X) (xPc (xHeat X))).isNone = false from by
              show (xT X (xPc X)).isNone = false
              rw [hT]
              rfl, Bool.and_false, Bool.false_and, Bool.false_and]
            exact fun z => by cases z)] at k
          exact k _ R1
      · have w2 : (xR (xHeat X)).isNone = false := by
          cases h : xR (xHeat X) with
          | none => rw [h] at c2; exact absurd rfl c2
          | some r => rfl
        rw [if_neg (by
          unfold xWants
          rw [w2, Bool.and_false, Bool.false_and, Bool.false_and, Bool.false_and]
          exact fun z => by cases z)] at k
        exact k _ R1
  refine B_X8_warm_0 _ ?_
  refine c0_holds R.code (by omega) ?_
  rw [if_pos hp]
  refine ⟨fun z => absurd z (by decide), fun _ => ?_⟩
  rw [n_cl (by omega), hh, hc]
  refine ⟨n_in (by omega) (by decide), n_in (by omega) (by decide), n_in (by omega) (by decide), fun c => go 0 ?_, fun c => go 1 ?_⟩
  · exact propext ⟨fun _ => c, fun _ => rfl⟩
  · exact propext ⟨fun z => absurd z (by decide), fun z => absurd z c⟩
theorem c1_brk {F : Int32 → zm → Prop} (R : RC e u th w X) (G : xGood N H X) (k : F (if xBrk X = true then 1 else 0) w) : zGo (d + 2) m_X1_wouldBreak 0 [.ref 1007, zJ] [] (yz w) (zKi F) := by
  have hv := G.1.2.2.2 _ _ G.2.2.2.1
  have hw := R.mid
  have hC := R.code
  unfold xBrk at k
  generalize xA X = a at hw hv k
  obtain ⟨pc, h, em, n, stk, loc, mem, out⟩ := a
  obtain ⟨u1, u2, u3, u4, -⟩ := hv
  have k' : F (if (aop (xC X) pc = 7 ∨ aop (xC X) pc = 8) ∧ stk (h - 1) = 0 then 1 else 0) (putm w (pc, h, em, n, stk, loc, mem, out)) := by
    rw [← hw]
    have : (if (aop (xC X) pc = 7 ∨ aop (xC X) pc = 8) ∧ stk (h - 1) = 0 then (1 : Int32) else 0) = (if abrk (xC X) pc h stk = true then 1 else 0) := by
      by_cases c : abrk (xC X) pc h stk = true
      · rw [if_pos c, if_pos ((abrk_iff _ _ _ _).mp c)]
      · rw [if_neg c, if_neg (fun z => c ((abrk_iff _ _ _ _).mpr z))]
    rw [this]
    exact k
  have := c1_wouldBreak (d := d) (F := F) hC u1 u3 (fun z => by
    have : tk (aop (xC X) pc) = 2 := by
      rcases z with z | z <;> rw [z] <;> rfl
    have u4 : tk (aop (xC X) pc) ≤ h := u4
    show 0 < h
    omega) k'
  rw [← hw] at this
  exact this
theorem c3_topw {F : Int32 → zm → Prop} (R : RC e u th w X) (h16 : (xA X).2.1 ≤ 16) (k : F (if (xA X).2.1 = 0 then 0 else (xA X).2.2.2.2.1 ((xA X).2.1 - 1)) w) : zGo d m_X3_top 0 [.ref 1009] [] (yz w) (zKi F) := by
  have hw := R.mid
  generalize xA X = a at hw h16 k
  obtain ⟨pc, h, em, n, stk, loc, mem, out⟩ := a
  have := c3_top (d := d) (F := F) (w := w) (pc := pc) (em := em) (n := n) (loc := loc) (mem := mem) (out := out) h16 (by rw [← hw]; exact k)
  rw [← hw] at this
  exact this
theorem c1_stepw {F : zm → Prop} (R : RC e u th w X) (G : xGood N H X) (hb : ¬ xBrk X = true) (hN : N < 2000000000) (k : F (putm (if aop (xC X) (xPc X) = 0 then yuI w 1007 5 3 else w) (astep (xC X) (xA X)))) : zGo (d + 3) m_X1_step 0 [.ref 1007, zJ, zJ] [] (yz w) (zKv F) := by
  have hv := G.2.2.2.1
  have he := G.2.2.1
  have hw := R.mid
  have hC := R.code
  have V := G.1
  unfold xBrk at hb
  unfold xPc at k
  generalize xA X = a at hw hv k hb he
  obtain ⟨pc, h, em, n, stk, loc, mem, out⟩ := a
  have he : em ≤ N := he
  have := c1_step (d := d) (F := F) hC (n := n) (loc := loc) (mem := mem) (out := out) (V.safe (em := em) (stk := stk) hv (by omega) (fun z z0 => hb ((abrk_iff _ _ _ _).mpr ⟨z, z0⟩))) k
  rw [← hw] at this
  exact this
/-- a step is noted -/
theorem RC.add (R : RC e u th w X) {r : rk} (hr : xR X = some r) (hl : pLn r.2.2 < 48) {a q : Nat} {s0 ch : Int32} (ha : a = pAd r.2.2 (pLn r.2.2)) (hs : (aop (xC X) a = 22 ∨ aop (xC X) a = 23) → (s0 = 1 ↔ ch = 0)) :
    RC e u th (yuI (yuA (yuA (yuA w 1027 (pLn r.2.2) (Int32.ofNat a)) 1028 (pLn r.2.2) s0) 1029 (pLn r.2.2) (-1)) 1026 4 (Int32.ofNat (pLn r.2.2 + 1))) (xsR X (some (r.1, r.2.1, pAdd r.2.2 ch q))) := by
  obtain ⟨⟨a1, a2, a3, a4, a5, a6, a7, a8, a9, a10, a11, a12, a13, a14, a15, a16, a17, a18, a19, a20, a21, a22, a23⟩, r2, r3, r4⟩ := R
  rw [hr] at r2
  obtain ⟨q1, q2, q3, q4, q5, q6, q7, q8, q9, q10, q11⟩ := r2
  refine ⟨⟨a1, a2, a3, a4, a5, a6, a7, a8, a9, a10, a11, a12, a13, a14, a15, a16, a17, a18, a19, a20, a21, a22, a23⟩, ⟨q1, q2, q3, q4, rfl, q6, q7, q8, q9, fun i hi => ?_, fun i hi hb => ?_⟩, r3.dyn ?_ rfl rfl, ?_⟩
  · have hi : i < pLn r.2.2 + 1 := hi
    show upd (yA w 1027) (pLn r.2.2) (Int32.ofNat a) i = Int32.ofNat (nSet (pAd r.2.2) (pLn r.2.2 + 1) q i)
    rw [nSet_ne _ _ (by omega)]
    by_cases c : i = pLn r.2.2
    · rw [c, upd_same, ha]
    · rw [upd_ne _ _ c]; exact q10 i (by omega)
  · have hi : i < pLn r.2.2 + 1 := hi
    have hb : aop (xC X) (nSet (pAd r.2.2) (pLn r.2.2 + 1) q i) = 22 ∨ aop (xC X) (nSet (pAd r.2.2) (pLn r.2.2 + 1) q i) = 23 := hb
    rw [nSet_ne _ _ (by omega)] at hb
    show upd (yA w 1028) (pLn r.2.2) s0 i = 1 ↔ nSet (pGo r.2.2) (pLn r.2.2) ch i = 0
    by_cases c : i = pLn r.2.2
    · rw [c, ← ha] at hb
      rw [c, upd_same, nSet_same]
      exact hs hb
    · rw [upd_ne _ _ c, nSet_ne _ _ c]; exact q11 i (by omega) hb
  · exact (((dyn_A w _ _ rfl).trans (dyn_A _ _ _ rfl)).trans (dyn_A _ _ _ rfl)).trans (dyn_I _ _ _ rfl (by decide))
  · exact (((r4.A _ _ rfl (by decide)).A _ _ rfl (by decide)).A _ _ rfl (by decide)).I _ _ (by decide)
theorem c2_add {F : zm → Prop} (R : RC e u th w X) {r : rk} (hr : xR X = some r) (hl : pLn r.2.2 < 48) {a q : Nat} {s0 ch : Int32} (h01 : s0 = 0 ∨ s0 = 1) (ha : a = pAd r.2.2 (pLn r.2.2)) (hs : (aop (xC X) a = 22 ∨ aop (xC X) a = 23) → (s0 = 1 ↔ ch = 0))
    (k : ∀ w', RC e u th w' (xsR X (some (r.1, r.2.1, pAdd r.2.2 ch q))) → F w') : zGo d m_X2_add 0 [.ref 1026, .int (Int32.ofNat a), .int s0] [] (yz w) (zKv F) := by
  have rr := R.2.1
  rw [hr] at rr
  have e4 := rr.2.2.2.2.1
  have fin : zGo d m_X2_add 44 [.ref 1026, .int (Int32.ofNat a), .int s0] [.int s0, .int (Int32.ofNat (pLn r.2.2)), .ref 1028] (yz (yuA w 1027 (pLn r.2.2) (Int32.ofNat a))) (zKv F) := by
    refine B_X2_add_r_44 _ _ _ _ ?_
    rw [show yI (yuA w 1027 (pLn r.2.2) (Int32.ofNat a)) 1026 4 = Int32.ofNat (pLn r.2.2) from e4, n_cl (by omega), show (Int32.ofNat (pLn r.2.2) + 1 : Int32) = Int32.ofNat (pLn r.2.2 + 1) from n_add _ 1]
    exact ⟨n_in hl (by decide), n_in hl (by decide), k _ (R.add hr hl ha hs)⟩
  refine B_X2_add_r_0 _ _ ?_
  rw [e4, n_neg (by omega), n_lit 48, n_lt (by omega) (by decide), n_cl (by omega)]
  refine ⟨fun z => z.elim, fun _ => ⟨fun _ => ⟨n_in hl (by decide), fun z => ?_, fun z => ?_⟩, fun z => absurd hl z⟩⟩
  · rw [z] at fin ⊢
    exact fin
  · have : s0 = 1 := h01.elim (fun c => absurd c z) id
    rw [this] at fin ⊢
    exact fin
end PLAIN
