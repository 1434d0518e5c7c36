/-! a pass keeps what is always so -/
section PASS
variable {N : Nat} {H : Nat → Option Nat} {X : xs}
theorem xGood.mod (G : xGood N H X) (hR : xR X = none) {a : Nat} {f : tr → tr} (hf : ∀ T, xT X a = some T → tOk (xC X) H a (f T)) : xGood N H (xMod X a f) := by
  obtain ⟨g1, g2, g3, g4, g5, g6⟩ := id G
  refine ⟨g1, g2, g3, g4, xMod_ok g5 hf, fun r hr => ?_⟩
  have hr : xR X = some r := hr
  rw [hR] at hr
  cases hr
theorem xGood.count (G : xGood N H X) (i : Nat) (v : Int64) : xGood N H (xsN X i v) := G
theorem fol_run {p : pth} : xHow X p ≤ pLn p ∧ xA (xFol X p) = aRun (xC X) (xA X) (xHow X p) ∧ (∀ j, j < xHow X p → aGoes (xC X) (pGo p) (xA X) j) ∧ (xHow X p < pLn p → ¬ aGoes (xC X) (pGo p) (xA X) (xHow X p)) := by
  obtain ⟨k, k1, k2, k3, k4, k5⟩ := afol_run (cd := xC X) (g := pGo p) (a := xA X) (pLn p) 0 (fun j hj => absurd hj (Nat.not_lt_zero j))
  have k3 : afol (xC X) (pGo p) (pLn p) 0 (xA X) = (k, aRun (xC X) (xA X) k) := k3
  have e1 : xHow X p = k := by
    unfold xHow
    rw [k3]
  have e2 : xA (xFol X p) = aRun (xC X) (xA X) k := by
    show (afol (xC X) (pGo p) (pLn p) 0 (xA X)).2 = _
    rw [k3]
  rw [e1, e2]
  exact ⟨by omega, rfl, k4, fun e => k5 (by omega)⟩
theorem xGood.fol (G : xGood N H X) (hR : xR X = none) {p : pth} (P : pOk (xC X) H p) (hpc : xPc X = pAd p 0) : xGood (N + xHow X p) H (xFol X p) ∧ xPc (xFol X p) = pAd p (xHow X p) := by
  obtain ⟨f1, f2, f3, f4⟩ := fol_run (X := X) (p := p)
  obtain ⟨g1, g2, g3, g4, g5, g6⟩ := id G
  obtain ⟨p1, p2, p3, p4, p5⟩ := P
  have hpc' : (xA X).1 = pAd p 0 := hpc
  have hh : (xA X).2.1 = pHt p := by
    rw [hpc', p3] at g4
    exact (Option.some.inj g4).symm
  obtain ⟨q1, q2⟩ := aRun_at g1 p4 p3 hpc' hh (xHow X p) f1 f3
  refine ⟨⟨g1, by rw [f2]; exact aRun_n g2 _, ?_, ?_, g5, fun r hr => ?_⟩, ?_⟩
  · rw [f2]
    have := aRun_em (cd := xC X) (a := xA X) (xHow X p)
    omega
  · rw [f2, q1]
    exact q2
  · have hr : xR X = some r := hr
    rw [hR] at hr
    cases hr
  · show (xA (xFol X p)).1 = _
    rw [f2]
    exact q1
theorem gIx_of {v : nv} {n : Nat} (h : ∃ j, j < nGs v ∧ nGa v j = n) : gIx v n < nGs v ∧ nGa v (gIx v n) = n := by
  unfold gIx
  cases hv : vfind (fun k => decide (nGa v k = n)) (nGs v) 0 with
  | none =>
    obtain ⟨j, j1, j2⟩ := h
    have := vfind_none hv j (Nat.zero_le _) (by omega)
    rw [decide_eq_true j2] at this
    cases this
  | some k =>
    obtain ⟨s1, s2, s3, -⟩ := vfind_some hv
    exact ⟨by show k < nGs v; omega, of_decide_eq_true s3⟩
/-- where a pass is left there is a guard -/
theorem xGood.guard (G : xGood N H X) {T : tr} (hT : xT X (xPc X) = some T) (hn : xHow X (tP T) < pLn (tP T)) : gIx (pV (xC X) (tP T)) (xHow X (tP T)) < pGs (xC X) (tP T) ∧ pGa (xC X) (tP T) (gIx (pV (xC X) (tP T)) (xHow X (tP T))) = xHow X (tP T) := by
  obtain ⟨f1, f2, f3, f4⟩ := fol_run (X := X) (p := tP T)
  obtain ⟨g1, g2, g3, g4, g5, g6⟩ := id G
  obtain ⟨⟨p1, p2, p3, p4, r, r1, r2, r3⟩, t2, t3, t4, t5⟩ := g5 _ _ hT
  have hpc' : (xA X).1 = pAd (tP T) 0 := t2.symm
  have hh : (xA X).2.1 = pHt (tP T) := by
    rw [hpc', p3] at g4
    exact (Option.some.inj g4).symm
  exact gIx_of (left_at_guard g1 p4 p3 p2 r1 r2 hpc' hh r3 hn f3 (f4 hn))
theorem xMod_keep (X : xs) (a : Nat) (f : tr → tr) : xSt (xMod X a f) = xSt X ∧ xR (xMod X a f) = xR X ∧ xA (xMod X a f) = xA X ∧ xC (xMod X a f) = xC X ∧ xM (xMod X a f) = xM X := ⟨rfl, rfl, rfl, rfl, rfl⟩
theorem xGood.failed (G : xGood N H X) (th : Nat) (hs : xSt X = 2) (hR : xR X = none) {a left k : Nat} {T : tr} (hT : xT X a = some (tBegun T)) (ha : a < xM X) (hk : k < pGs (xC X) (tP T)) (hpc : xPc X = pAd (tP T) (pGa (xC X) (tP T) k)) (hop : ¬ aop (xC X) (xPc X) = 0) (hl : 0 < left) :
    xGood (N + (xFailed th X a left k T).2.1) H (xFailed th X a left k T).1 ∧ xSt (xFailed th X a left k T).1 = 2 ∧ ((xFailed th X a left k T).2.2 = true → (xFailed th X a left k T).2.1 ≤ left ∧ xR (xFailed th X a left k T).1 = none) ∧ ((xFailed th X a left k T).2.2 = false → (xFailed th X a left k T).2.1 < left ∧ ∀ r, xR (xFailed th X a left k T).1 = some r → pLn r.2.2 < 48 ∧ ¬ aop (xC (xFailed th X a left k T).1) (xPc (xFailed th X a left k T).1) = 0) := by
  have G1 : xGood N H (xMod X a (tFail k)) := G.mod hR (fun T' h => G.2.2.2.2.1 a T' h)
  have tk0 := G.2.2.2.2.1 _ _ hT
  unfold xFailed
  cases hb : tBr T k with
  | none =>
    dsimp only
    by_cases c : tWants th k T = true
    · rw [if_pos c]
      unfold tWants at c
      rw [Bool.and_eq_true, Bool.and_eq_true] at c
      obtain ⟨⟨c1, c2⟩, c3⟩ := c
      refine ⟨?_, hs, fun e => (by cases e), fun _ => ⟨hl, fun r hr => ?_⟩⟩
      · exact G1.begin (gd := some k) ha ⟨tFail k (tBegun T), xMod_same hT, hk, hb, of_decide_eq_true c3, hpc⟩
      · have hr : some (a, some k, ((xA X).2.1, 0, (fun _ => xPc X), (fun _ => -1))) = some r := hr
        cases hr
        exact ⟨by show 0 < 48; decide, hop⟩
    · rw [if_neg c]
      refine ⟨G1, hs, fun e => (by cases e), fun _ => ⟨hl, fun r hr => ?_⟩⟩
      have hr : xR X = some r := hr
      rw [hR] at hr
      cases hr
  | some j =>
    obtain ⟨b1, b2⟩ := tk0.2.2.2.2 k j hk hb
    have P := tk0.2.2.2.1 j b1
    have hpj : xPc (xMod X a (tFail k)) = pAd (tBp T j) 0 := hpc.trans b2.symm
    obtain ⟨F1, F2⟩ := G1.fol hR P hpj
    obtain ⟨f1, f2, f3, f4⟩ := fol_run (X := xMod X a (tFail k)) (p := tBp T j)
    dsimp only
    by_cases c : pLn (tBp T j) ≤ left
    · rw [if_pos c]
      by_cases e : xHow (xMod X a (tFail k)) (tBp T j) = pLn (tBp T j)
      · rw [if_pos e]
        refine ⟨?_, hs, fun _ => ⟨?_, hR⟩, fun e => (by cases e)⟩
        · exact (F1.mod (f := tRound) hR (fun T' h => F1.2.2.2.2.1 a T' h)).count 2 1
        · show xHow (xMod X a (tFail k)) (tBp T j) ≤ left
          omega
      · rw [if_neg e]
        refine ⟨F1, hs, fun e => (by cases e), fun _ => ⟨?_, fun r hr => ?_⟩⟩
        · show xHow (xMod X a (tFail k)) (tBp T j) < left
          omega
        · have hr : xR X = some r := hr
          rw [hR] at hr
          cases hr
    · rw [if_neg c]
      refine ⟨G1, hs, fun e => (by cases e), fun _ => ⟨hl, fun r hr => ?_⟩⟩
      have hr : xR X = some r := hr
      rw [hR] at hr
      cases hr
theorem xAt_some {T : tr} (h : xAt X = some T) : xR X = none ∧ xT X (xPc X) = some T := by
  unfold xAt at h
  cases hr : xR X with
  | none => rw [hr] at h; exact ⟨rfl, h⟩
  | some r => rw [hr] at h; cases h
theorem xGood.pass0 (G : xGood N H X) (hR : xR X = none) : xGood N H (xPass0 X) := (G.mod hR (f := tBegun) (fun T' h => G.2.2.2.2.1 _ T' h)).count 1 1
theorem xGood.pass (G : xGood N H X) (th : Nat) {left : Nat} (hs : xSt X = 2) {T : tr} (hA : xAt X = some T) (hl : pLn (tP T) ≤ left) :
    xGood (N + (xPass th left X T).2.1) H (xPass th left X T).1 ∧ xSt (xPass th left X T).1 = 2 ∧ ((xPass th left X T).2.2 = true → 0 < (xPass th left X T).2.1 ∧ (xPass th left X T).2.1 ≤ left ∧ xR (xPass th left X T).1 = none) ∧ ((xPass th left X T).2.2 = false → (xPass th left X T).2.1 < left ∧ ∀ r, xR (xPass th left X T).1 = some r → pLn r.2.2 < 48 ∧ ¬ aop (xC (xPass th left X T).1) (xPc (xPass th left X T).1) = 0) := by
  obtain ⟨hR, hT⟩ := xAt_some hA
  obtain ⟨P, t2, t3, t4, t5⟩ := G.2.2.2.2.1 _ _ hT
  have G0 := G.pass0 hR
  obtain ⟨F1, F2⟩ := G0.fol hR P (show xPc X = pAd (tP T) 0 from t2.symm)
  obtain ⟨f1, f2, f3, f4⟩ := fol_run (X := xPass0 X) (p := tP T)
  have F1 : xGood (N + xHow X (tP T)) H (xFol (xPass0 X) (tP T)) := F1
  have F2 : xPc (xFol (xPass0 X) (tP T)) = pAd (tP T) (xHow X (tP T)) := F2
  have f1 : xHow X (tP T) ≤ pLn (tP T) := f1
  unfold xPass
  by_cases e : xHow X (tP T) = pLn (tP T)
  · rw [if_pos e]
    refine ⟨?_, hs, fun _ => ⟨?_, ?_, hR⟩, fun z => (by cases z)⟩
    · exact (F1.mod (f := tRound) hR (fun T' h => F1.2.2.2.2.1 _ T' h)).count 2 1
    · show 0 < xHow X (tP T)
      have := P.1
      omega
    · show xHow X (tP T) ≤ left
      omega
  · rw [if_neg e]
    have hn : xHow X (tP T) < pLn (tP T) := by omega
    obtain ⟨k1, k2⟩ := G.guard hT hn
    have hT' : xT (xFol (xPass0 X) (tP T)) (xPc X) = some (tBegun T) := xMod_same (X := X) hT
    have hop : ¬ aop (xC X) (xPc (xFol (xPass0 X) (tP T))) = 0 := by
      rw [F2]
      exact (P.2.2.2.1 _ hn).1
    obtain ⟨q1, q2, q3, q4⟩ := F1.failed th (left := left - xHow X (tP T)) (k := gIx (pV (xC X) (tP T)) (xHow X (tP T))) (T := T) hs hR hT' G.lt k1 (by rw [F2]; exact congrArg (pAd (tP T)) k2.symm) hop (by omega)
    refine ⟨?_, q2, fun z => ?_, fun z => ?_⟩
    · show xGood (N + (xHow X (tP T) + _)) H _
      rw [← Nat.add_assoc]
      exact q1
    · obtain ⟨z1, z2⟩ := q3 z
      refine ⟨?_, ?_, z2⟩
      · show 0 < xHow X (tP T) + (xFailed th (xFol (xPass0 X) (tP T)) (xPc X) (left - xHow X (tP T)) (gIx (pV (xC X) (tP T)) (xHow X (tP T))) T).2.1
        revert z
        show (xFailed th (xFol (xPass0 X) (tP T)) (xPc X) (left - xHow X (tP T)) (gIx (pV (xC X) (tP T)) (xHow X (tP T))) T).2.2 = true → _
        generalize gIx (pV (xC X) (tP T)) (xHow X (tP T)) = k at *
        unfold xFailed
        cases hb : tBr T k with
        | none => intro z; cases z
        | some j =>
          dsimp only
          have hb1 := (t5 k j k1 hb).1
          have hb2 := (t4 j hb1).1
          split
          · split
            · rename_i e1 e2
              intro _
              dsimp only
              omega
            · intro z; cases z
          · intro z; cases z
      · show xHow X (tP T) + _ ≤ left
        have : xHow X (tP T) ≤ left := by omega
        omega
    · obtain ⟨z1, z2⟩ := q4 z
      refine ⟨?_, z2⟩
      show xHow X (tP T) + _ < left
      omega
theorem xGood.turn (G : xGood N H X) (th : Nat) {left : Nat} (hs : xSt X = 2) (hl : 0 < left) :
    (xTurn th left X).2 < left ∧ ((xSt (xTurn th left X).1 = 2 ∧ xGood (N + left - (xTurn th left X).2) H (xTurn th left X).1) ∨ (¬ xSt (xTurn th left X).1 = 2 ∧ ∃ N', N' ≤ N + left ∧ xOk N' (xTurn th left X).1)) := by
  obtain ⟨G1, s1, a1, r1⟩ := G.due
  unfold xTurn
  rw [← s1] at hs
  generalize xDue X = Y at *
  have plain : ∀ {N' left' : Nat} {Z : xs}, xGood N' H Z → xSt Z = 2 → 0 < left' → N' + left' = N + left → left' ≤ left → (∀ r, xR Z = some r → pLn r.2.2 < 48 ∧ ¬ aop (xC Z) (xPc Z) = 0) → (xPlain th left' Z).2 < left ∧ ((xSt (xPlain th left' Z).1 = 2 ∧ xGood (N + left - (xPlain th left' Z).2) H (xPlain th left' Z).1) ∨ (¬ xSt (xPlain th left' Z).1 = 2 ∧ ∃ N', N' ≤ N + left ∧ xOk N' (xPlain th left' Z).1)) := by
    intro N' left' Z GZ sZ h1 h2 h3 rZ
    refine ⟨by show left' - 1 < left; omega, ?_⟩
    show (xSt (xEnd (xStep th Z)) = 2 ∧ xGood (N + left - (left' - 1)) H (xEnd (xStep th Z))) ∨ (¬ xSt (xEnd (xStep th Z)) = 2 ∧ ∃ N', N' ≤ N + left ∧ xOk N' (xEnd (xStep th Z)))
    rcases GZ.plain th sZ rZ with ⟨u1, u2⟩ | ⟨u1, M, u2, u3⟩
    · left
      rw [show N + left - (left' - 1) = N' + 1 from by omega]
      exact ⟨u1, u2⟩
    · right
      exact ⟨u1, M, by omega, u3⟩
  unfold xTurn0
  cases hA : xAt Y with
  | none => exact plain G1 hs hl rfl (Nat.le_refl _) r1
  | some T =>
    dsimp only
    by_cases c : pLn (tP T) ≤ left
    · rw [if_pos c]
      obtain ⟨q1, q2, q3, q4⟩ := G1.pass th hs hA c
      cases hb : (xPass th left Y T).2.2 with
      | true =>
        obtain ⟨z1, z2, z3⟩ := q3 hb
        rw [if_pos rfl]
        refine ⟨by show left - (xPass th left Y T).2.1 < left; omega, Or.inl ⟨q2, ?_⟩⟩
        show xGood (N + left - (left - (xPass th left Y T).2.1)) H (xPass th left Y T).1
        rw [show N + left - (left - (xPass th left Y T).2.1) = N + (xPass th left Y T).2.1 from by omega]
        exact q1
      | false =>
        obtain ⟨z1, z2⟩ := q4 hb
        rw [if_neg (by decide)]
        exact plain q1 q2 (by omega) (by omega) (by omega) z2
    · rw [if_neg c]
      exact plain G1 hs hl rfl (Nat.le_refl _) r1
end PASS
