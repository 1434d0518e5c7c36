/-! a run keeps what is always so -/
theorem afol_run {cd g : Nat → Int32} {a : am} : ∀ (n i : Nat), (∀ j, j < i → aGoes cd g a j) → ∃ k, i ≤ k ∧ k ≤ i + n ∧ afol cd g n i (aRun cd a i) = (k, aRun cd a k) ∧ (∀ j, j < k → aGoes cd g a j) ∧ (k < i + n → ¬ aGoes cd g a k) := by
  intro n
  induction n with
  | zero =>
    intro i h
    exact ⟨i, Nat.le_refl _, Nat.le_refl _, rfl, h, fun e => absurd e (by omega)⟩
  | succ n ih =>
    intro i h
    unfold afol
    by_cases c : abrk cd (aRun cd a i).1 (aRun cd a i).2.1 (aRun cd a i).2.2.2.2.1 = true ∨ ¬ achoice (aop cd (aRun cd a i).1) (aRun cd a i).2.1 (aRun cd a i).2.2.2.2.1 = g i
    · rw [if_pos c]
      refine ⟨i, Nat.le_refl _, by omega, rfl, h, fun _ => ?_⟩
      intro z
      rcases c with c | c
      · rw [z.1] at c
        cases c
      · exact c z.2
    · rw [if_neg c]
      have hg : aGoes cd g a i := by
        refine ⟨?_, ?_⟩
        · cases e : abrk cd (aRun cd a i).1 (aRun cd a i).2.1 (aRun cd a i).2.2.2.2.1 with
          | false => rfl
          | true => exact absurd (Or.inl e) c
        · by_cases e : achoice (aop cd (aRun cd a i).1) (aRun cd a i).2.1 (aRun cd a i).2.2.2.2.1 = g i
          · exact e
          · exact absurd (Or.inr e) c
      obtain ⟨k, k1, k2, k3, k4, k5⟩ := ih (i + 1) (fun j hj => by
        by_cases e : j = i
        · rw [e]; exact hg
        · exact h j (by omega))
      exact ⟨k, by omega, by omega, k3, k4, fun e => k5 (by omega)⟩
theorem l_add (a b : Nat) : Int64.ofNat a + Int64.ofNat b = Int64.ofNat (a + b) := (Int64.ofNat_add a b).symm
theorem astep_n {cd : Nat → Int32} {a : am} {N : Nat} (h : a.2.2.2.1 = Int64.ofNat N) : (astep cd a).2.2.2.1 = Int64.ofNat (N + 1) := by
  show a.2.2.2.1 + 1 = Int64.ofNat (N + 1)
  rw [h]
  exact l_add N 1
theorem astep_em {cd : Nat → Int32} {a : am} : (astep cd a).2.2.1 ≤ a.2.2.1 + 1 := aeff_em _ _ _ _ _ _ _
theorem aRun_n {cd : Nat → Int32} {a : am} {N : Nat} (h : a.2.2.2.1 = Int64.ofNat N) : ∀ k, (aRun cd a k).2.2.2.1 = Int64.ofNat (N + k) := by
  intro k
  induction k with
  | zero => exact h
  | succ k ih => exact astep_n ih
theorem aRun_em {cd : Nat → Int32} {a : am} : ∀ k, (aRun cd a k).2.2.1 ≤ a.2.2.1 + k := by
  intro k
  induction k with
  | zero => exact Nat.le_refl _
  | succ k ih =>
    have := astep_em (cd := cd) (a := aRun cd a k)
    show (astep cd (aRun cd a k)).2.2.1 ≤ _
    omega
theorem aV.htm {m : Nat} {cd : Nat → Int32} {H : Nat → Option Nat} (V : aV m cd H) {a : am} (hh : H a.1 = some a.2.1) (h0 : ¬ aop cd a.1 = 0) : H (astep cd a).1 = some (astep cd a).2.1 := by
  obtain ⟨pc, h, em, n, stk, loc, mem, out⟩ := a
  exact V.ht hh h0 em n stk loc mem out
theorem cN_eq {f g : Nat → Bool} : ∀ n, (∀ i, i < n → f i = g i) → cN f n = cN g n := by
  intro n
  induction n with
  | zero => intro _; rfl
  | succ n ih =>
    intro h
    unfold cN
    rw [ih (fun i hi => h i (by omega)), h n (by omega)]
/-- what is so while it runs -/
def xGood (N : Nat) (H : Nat → Option Nat) (X : xs) : Prop := aV (xM X) (xC X) H ∧ (xA X).2.2.2.1 = Int64.ofNat N ∧ (xA X).2.2.1 ≤ N ∧ H (xA X).1 = some (xA X).2.1 ∧ (∀ a T, xT X a = some T → tOk (xC X) H a T) ∧ (∀ r, xR X = some r → rOk (xC X) H X r)
section GOOD
variable {N : Nat} {H : Nat → Option Nat} {X : xs}
theorem xOk.good (O : xOk N X) (h : xSt X = 2) : ∃ H, xGood N H X := by
  obtain ⟨o1, o2, o3, o4, o5, o6, o7, o8⟩ := O
  obtain ⟨H, v1, v2, v3, v4⟩ := o8 (by omega)
  exact ⟨H, v1, o3, o4, v4 h, v2, fun r hr => (v3 r hr).2⟩
theorem xGood.ok (G : xGood N H X) (h : xSt X = 2) : xOk N X := by
  obtain ⟨g1, g2, g3, g4, g5, g6⟩ := G
  obtain ⟨u1, u2, u3, -⟩ := g1.2.2.2 _ _ g4
  have := g1.2.1
  exact ⟨g1.2.1, by omega, g2, g3, by omega, u3, fun e => by omega, fun _ => ⟨H, g1, g5, fun r hr => ⟨h, g6 r hr⟩, fun _ => g4⟩⟩
theorem xGood.stop (G : xGood N H X) (hr : xR X = none) {v : Nat} (h : v = 3 ∨ v = 4) : xOk N (xsSt X v) := by
  obtain ⟨g1, g2, g3, g4, g5, g6⟩ := G
  obtain ⟨u1, u2, u3, -⟩ := g1.2.2.2 _ _ g4
  have := g1.2.1
  refine ⟨g1.2.1, by show v ≤ 4; omega, g2, g3, by show (xA X).1 < 200; omega, u3, fun e => absurd e (by show ¬ v = 0; omega), fun _ => ⟨H, g1, g5, fun r hr' => ?_, fun e => absurd e (by show ¬ v = 2; omega)⟩⟩
  have hr' : xR X = some r := hr'
  rw [hr] at hr'
  cases hr'
/-- a change of one trace that keeps what is so of it -/
theorem xMod_T {a : Nat} {f : tr → tr} {b : Nat} {T : tr} (h : xT (xMod X a f) b = some T) : (b = a ∧ ∃ T0, xT X a = some T0 ∧ T = f T0) ∨ (b ≠ a ∧ xT X b = some T) := by
  have h : nSet (xT X) a ((xT X a).map f) b = some T := h
  by_cases e : b = a
  · rw [e, nSet_same] at h
    cases ht : xT X a with
    | none => rw [ht] at h; cases h
    | some T0 =>
      rw [ht] at h
      cases h
      exact Or.inl ⟨e, T0, rfl, rfl⟩
  · rw [nSet_ne _ _ e] at h
    exact Or.inr ⟨e, h⟩
theorem xMod_same {a : Nat} {f : tr → tr} {T : tr} (h : xT X a = some T) : xT (xMod X a f) a = some (f T) := by
  show nSet (xT X) a ((xT X a).map f) a = some (f T)
  rw [nSet_same, h]
  rfl
theorem xMod_ne {a b : Nat} {f : tr → tr} (h : b ≠ a) : xT (xMod X a f) b = xT X b := nSet_ne _ _ h
theorem xMod_many {a : Nat} {f : tr → tr} : xMany (xMod X a f) = xMany X := by
  refine cN_eq 200 (fun i _ => ?_)
  show (nSet (xT X) a ((xT X a).map f) i).isSome = (xT X i).isSome
  by_cases e : i = a
  · rw [e, nSet_same]
    cases xT X a <;> rfl
  · rw [nSet_ne _ _ e]
theorem xMod_ok {a : Nat} {f : tr → tr} (g5 : ∀ a T, xT X a = some T → tOk (xC X) H a T) (hf : ∀ T, xT X a = some T → tOk (xC X) H a (f T)) : ∀ b T, xT (xMod X a f) b = some T → tOk (xC X) H b T := by
  intro b T h
  rcases xMod_T h with ⟨e, T0, h1, h2⟩ | ⟨e, h1⟩
  · rw [e, h2]
    exact hf T0 h1
  · exact g5 b T h1
theorem tOk_cut {cd : Nat → Int32} {a k : Nat} {T : tr} (h : tOk cd H a T) : tOk cd H a (tCut k T) := h
theorem tOk_fail {cd : Nat → Int32} {a k : Nat} {T : tr} (h : tOk cd H a T) : tOk cd H a (tFail k T) := h
theorem tOk_begun {cd : Nat → Int32} {a : Nat} {T : tr} (h : tOk cd H a T) : tOk cd H a (tBegun T) := h
theorem tOk_round {cd : Nat → Int32} {a : Nat} {T : tr} (h : tOk cd H a T) : tOk cd H a (tRound T) := h
theorem xCut_R (X : xs) : xR (xCut X) = none := by
  unfold xCut
  cases h : xR X with
  | none => exact h
  | some r =>
    dsimp only
    cases r.2.1 <;> rfl
theorem xCut_keep (X : xs) : xM (xCut X) = xM X ∧ xC (xCut X) = xC X ∧ xF (xCut X) = xF X ∧ xSt (xCut X) = xSt X ∧ xA (xCut X) = xA X := by
  unfold xCut
  cases h : xR X with
  | none => exact ⟨rfl, rfl, rfl, rfl, rfl⟩
  | some r =>
    dsimp only
    cases r.2.1 <;> exact ⟨rfl, rfl, rfl, rfl, rfl⟩
theorem xGood.cut (G : xGood N H X) : xGood N H (xCut X) := by
  obtain ⟨k1, k2, k3, k4, k5⟩ := xCut_keep X
  obtain ⟨g1, g2, g3, g4, g5, g6⟩ := id G
  refine ⟨by rw [k1, k2]; exact g1, by rw [k5]; exact g2, by rw [k5]; exact g3, by rw [k5]; exact g4, ?_, fun r hr => by rw [xCut_R] at hr; cases hr⟩
  rw [k2]
  unfold xCut
  cases h : xR X with
  | none => exact g5
  | some r =>
    dsimp only
    cases r.2.1 with
    | none => exact g5
    | some k => exact xMod_ok (X := xsN X 4 1) g5 (fun T hT => g5 _ T hT)
theorem xGood.due (G : xGood N H X) : xGood N H (xDue X) ∧ xSt (xDue X) = xSt X ∧ xA (xDue X) = xA X ∧ (∀ r, xR (xDue X) = some r → pLn r.2.2 < 48 ∧ ¬ aop (xC (xDue X)) (xPc (xDue X)) = 0) := by
  unfold xDue
  cases h : xR X with
  | none =>
    dsimp only
    exact ⟨G, rfl, rfl, fun r hr => by rw [h] at hr; cases hr⟩
  | some r =>
    dsimp only
    by_cases c : 48 ≤ pLn r.2.2 ∨ aop (xC X) (xPc X) = 0
    · rw [if_pos c]
      obtain ⟨k1, k2, k3, k4, k5⟩ := xCut_keep X
      exact ⟨G.cut, k4, k5, fun r hr => by rw [xCut_R] at hr; cases hr⟩
    · rw [if_neg c]
      refine ⟨G, rfl, rfl, fun r' hr => ?_⟩
      rw [h] at hr
      cases hr
      exact ⟨by omega, fun e => c (Or.inr e)⟩
/-- a step more is recorded -/
theorem aPath_add {cd : Nat → Int32} {p : pth} (P : aPath cd (pLn p) (pAd p) (pGo p)) {a : am} (e : a.1 = pAd p (pLn p)) (h0 : ¬ aop cd a.1 = 0) : aPath cd (pLn p + 1) (nSet (pAd p) (pLn p + 1) (astep cd a).1) (nSet (pGo p) (pLn p) (achoice (aop cd a.1) a.2.1 a.2.2.2.2.1)) := by
  intro i hi
  by_cases ei : i = pLn p
  · subst ei
    rw [nSet_same, nSet_ne _ _ (by omega), nSet_same, ← e]
    refine ⟨h0, anx_of rfl, fun z => ?_, fun z => ?_⟩
    · unfold achoice
      rw [if_pos z]
      split
      · exact Or.inl rfl
      · exact Or.inr rfl
    · unfold achoice
      rw [if_neg z]
  · obtain ⟨p1, p2, p3, p4⟩ := P i (by omega)
    rw [nSet_ne _ _ (by omega), nSet_ne _ _ (by omega), nSet_ne _ _ ei]
    exact ⟨p1, p2, p3, p4⟩
theorem aGoes_congr {cd g g' : Nat → Int32} {a : am} {j : Nat} (h : g' j = g j) (z : aGoes cd g a j) : aGoes cd g' a j := ⟨z.1, z.2.trans h.symm⟩
theorem rOk_at {r : rk} (V : aV (xM X) (xC X) H) (R : rOk (xC X) H X r) : (xA X).1 = pAd r.2.2 (pLn r.2.2) := by
  obtain ⟨r1, r2, r3, r4, ⟨r0, s1, s2, s3, s4⟩, r6⟩ := R
  have := (aRun_at V r4 r3 s1 s2 (pLn r.2.2) (Nat.le_refl _) s3).1
  rw [s4] at this
  exact this
theorem xGood.note (G : xGood N H X) (hb : ¬ xBrk X = true) (h0 : ¬ aop (xC X) (xPc X) = 0) (hr : ∀ r, xR X = some r → pLn r.2.2 < 48) : xGood (N + 1) H (xNote X) := by
  obtain ⟨g1, g2, g3, g4, g5, g6⟩ := id G
  refine ⟨g1, astep_n g2, ?_, g1.htm g4 h0, g5, fun r' hr' => ?_⟩
  · have := astep_em (cd := xC X) (a := xA X)
    show (astep (xC X) (xA X)).2.2.1 ≤ N + 1
    omega
  · have hr' : (xR X).map (fun r => (r.1, r.2.1, pAdd r.2.2 (xCh X) (astep (xC X) (xA X)).1)) = some r' := hr'
    cases h : xR X with
    | none => rw [h] at hr'; cases hr'
    | some r =>
      rw [h] at hr'
      cases hr'
      have R := g6 r h
      have hat := rOk_at g1 R
      obtain ⟨r1, r2, r3, r4, ⟨r0, s1, s2, s3, s4⟩, r6⟩ := R
      have hlt := hr r h
      refine ⟨hlt, r2, ?_, aPath_add r4 hat h0, ⟨r0, ?_, s2, ?_, ?_⟩, ?_⟩
      · show H (nSet (pAd r.2.2) (pLn r.2.2 + 1) (astep (xC X) (xA X)).1 0) = some (pHt r.2.2)
        rw [nSet_ne _ _ (by omega)]
        exact r3
      · show r0.1 = nSet (pAd r.2.2) (pLn r.2.2 + 1) (astep (xC X) (xA X)).1 0
        rw [nSet_ne _ _ (by omega)]
        exact s1
      · intro j hj
        have hj : j < pLn r.2.2 + 1 := hj
        show aGoes (xC X) (nSet (pGo r.2.2) (pLn r.2.2) (xCh X)) r0 j
        by_cases e : j = pLn r.2.2
        · subst e
          refine ⟨?_, ?_⟩
          · rw [s4]
            cases e : abrk (xC X) (xA X).1 (xA X).2.1 (xA X).2.2.2.2.1 with
            | false => rfl
            | true => exact absurd e hb
          · rw [s4, nSet_same]
            rfl
        · exact aGoes_congr (nSet_ne _ _ e) (s3 j (by omega))
      · show astep (xC X) (aRun (xC X) r0 (pLn r.2.2)) = astep (xC X) (xA X)
        rw [s4]
      · have e0 : nSet (pAd r.2.2) (pLn r.2.2 + 1) (astep (xC X) (xA X)).1 0 = pAd r.2.2 0 := nSet_ne _ _ (by omega)
        show (match r.2.1 with
          | none => xT X r.1 = none ∧ xMany X < 16 ∧ nSet (pAd r.2.2) (pLn r.2.2 + 1) (astep (xC X) (xA X)).1 0 = r.1
          | some k => ∃ T, xT X r.1 = some T ∧ k < pGs (xC X) (tP T) ∧ tBr T k = none ∧ tNb T < 4 ∧ nSet (pAd r.2.2) (pLn r.2.2 + 1) (astep (xC X) (xA X)).1 0 = pAd (tP T) (pGa (xC X) (tP T) k))
        rw [e0]
        exact r6
theorem xGood.heat (G : xGood N H X) (v : Nat → Int32) : xGood N H (xsHe X v) := G
theorem xGood.begin (G : xGood N H X) {hd : Nat} {gd : Option Nat} (h1 : hd < xM X) (h2 : match gd with
    | none => xT X hd = none ∧ xMany X < 16 ∧ xPc X = hd
    | some k => ∃ T, xT X hd = some T ∧ k < pGs (xC X) (tP T) ∧ tBr T k = none ∧ tNb T < 4 ∧ xPc X = pAd (tP T) (pGa (xC X) (tP T) k)) : xGood N H (xBegin X hd gd) := by
  obtain ⟨g1, g2, g3, g4, g5, g6⟩ := id G
  refine ⟨g1, g2, g3, g4, g5, fun r hr => ?_⟩
  have hr : some (hd, gd, ((xA X).2.1, 0, (fun _ => xPc X), (fun _ => -1))) = some r := hr
  cases hr
  exact ⟨Nat.zero_le _, h1, g4, fun i hi => absurd hi (Nat.not_lt_zero i), ⟨xA X, rfl, rfl, fun j hj => absurd hj (Nat.not_lt_zero j), rfl⟩, h2⟩
theorem xGood.lt (G : xGood N H X) : xPc X < xM X := (G.1.2.2.2 _ _ G.2.2.2.1).1
theorem xGood.hot (G : xGood N H X) (th : Nat) : xGood N H (xHot th X) := by
  unfold xHot
  by_cases c : xWants th X = true
  · rw [if_pos c]
    unfold xWants at c
    rw [Bool.and_eq_true, Bool.and_eq_true, Bool.and_eq_true, Bool.and_eq_true] at c
    obtain ⟨⟨⟨⟨c1, c2⟩, c3⟩, c4⟩, c5⟩ := c
    exact G.begin G.lt ⟨Option.isNone_iff_eq_none.mp c3, of_decide_eq_true c5, rfl⟩
  · rw [if_neg c]
    exact G
theorem xGood.warm (G : xGood N H X) (th was : Nat) : xGood N H (xWarm th was X) := by
  unfold xWarm
  split
  · exact (G.heat _).hot th
  · exact G
theorem xHot_keep (th : Nat) (X : xs) : xM (xHot th X) = xM X ∧ xC (xHot th X) = xC X ∧ xSt (xHot th X) = xSt X ∧ xA (xHot th X) = xA X := by
  unfold xHot
  split <;> exact ⟨rfl, rfl, rfl, rfl⟩
theorem xWarm_keep (th was : Nat) (X : xs) : xM (xWarm th was X) = xM X ∧ xC (xWarm th was X) = xC X ∧ xSt (xWarm th was X) = xSt X ∧ xA (xWarm th was X) = xA X := by
  unfold xWarm
  split
  · exact xHot_keep th (xHeat X)
  · exact ⟨rfl, rfl, rfl, rfl⟩
theorem xFin_keep (X : xs) : xM (xFin X) = xM X ∧ xC (xFin X) = xC X ∧ xF (xFin X) = xF X ∧ xSt (xFin X) = xSt X ∧ xA (xFin X) = xA X ∧ xR (xFin X) = none := by
  unfold xFin
  cases h : xR X with
  | none => exact ⟨rfl, rfl, rfl, rfl, rfl, h⟩
  | some r =>
    dsimp only
    cases r.2.1 <;> exact ⟨rfl, rfl, rfl, rfl, rfl, rfl⟩
theorem xGood.fin (G : xGood N H X) {r : rk} (hr : xR X = some r) (hl : 0 < pLn r.2.2) : xGood N H (xFin X) := by
  obtain ⟨k1, k2, k3, k4, k5, k6⟩ := xFin_keep X
  obtain ⟨g1, g2, g3, g4, g5, g6⟩ := id G
  refine ⟨by rw [k1, k2]; exact g1, by rw [k5]; exact g2, by rw [k5]; exact g3, by rw [k5]; exact g4, ?_, fun r hr => by rw [k6] at hr; cases hr⟩
  rw [k2]
  obtain ⟨r1, r2, r3, r4, ⟨r0, s1, s2, s3, s4⟩, r6⟩ := g6 r hr
  have hp : pOk (xC X) H r.2.2 := ⟨hl, r1, r3, r4, r0, s1, s2, s3⟩
  unfold xFin
  rw [hr]
  dsimp only
  cases hk : r.2.1 with
  | none =>
    rw [hk] at r6
    dsimp only at r6 ⊢
    intro b T hT
    have hT : nSet (xT X) r.1 (some (tNew r.2.2)) b = some T := hT
    by_cases e : b = r.1
    · rw [e, nSet_same] at hT
      cases hT
      exact ⟨hp, by rw [e]; exact r6.2.2, Nat.zero_le _, fun j hj => absurd hj (Nat.not_lt_zero j), fun k j _ z => by cases z⟩
    · rw [nSet_ne _ _ e] at hT
      exact g5 b T hT
  | some k =>
    rw [hk] at r6
    dsimp only at r6 ⊢
    obtain ⟨T0, q1, q2, q3, q4, q5⟩ := r6
    refine xMod_ok (X := X) g5 (fun T hT => ?_)
    rw [q1] at hT
    cases hT
    obtain ⟨t1, t2, t3, t4, t5⟩ := g5 _ _ q1
    refine ⟨t1, t2, q4, fun j hj => ?_, fun k' j hk' hj => ?_⟩
    · have hj : j < tNb T0 + 1 := hj
      show pOk (xC X) H (nSet (tBp T0) (tNb T0) r.2.2 j)
      by_cases e : j = tNb T0
      · rw [e, nSet_same]; exact hp
      · rw [nSet_ne _ _ e]; exact t4 j (by omega)
    · have hj : nSet (tBr T0) k (some (tNb T0)) k' = some j := hj
      show j < tNb T0 + 1 ∧ pAd (nSet (tBp T0) (tNb T0) r.2.2 j) 0 = pAd (tP T0) (pGa (xC X) (tP T0) k')
      by_cases e : k' = k
      · rw [e, nSet_same] at hj
        cases hj
        rw [nSet_same, e]
        exact ⟨Nat.lt_succ_self _, q5⟩
      · rw [nSet_ne _ _ e] at hj
        obtain ⟨w1, w2⟩ := t5 k' j hk' hj
        rw [nSet_ne _ _ (by omega)]
        exact ⟨by omega, w2⟩
theorem xGood.fend (G : xGood N H X) : xGood N H (xEnd X) ∧ xSt (xEnd X) = xSt X := by
  unfold xEnd
  cases h : xR X with
  | none => exact ⟨G, rfl⟩
  | some r =>
    dsimp only
    by_cases c : r.1 = xPc X ∧ 0 < pLn r.2.2
    · rw [if_pos c]
      exact ⟨G.fin h c.2, (xFin_keep X).2.2.2.1⟩
    · rw [if_neg c]
      exact ⟨G, rfl⟩
/-- a plain step -/
theorem xGood.plain (G : xGood N H X) (th : Nat) (hs : xSt X = 2) (hr : ∀ r, xR X = some r → pLn r.2.2 < 48 ∧ ¬ aop (xC X) (xPc X) = 0) :
    (xSt (xEnd (xStep th X)) = 2 ∧ xGood (N + 1) H (xEnd (xStep th X))) ∨ (¬ xSt (xEnd (xStep th X)) = 2 ∧ ∃ N', N' ≤ N + 1 ∧ xOk N' (xEnd (xStep th X))) := by
  unfold xStep
  by_cases c : xBrk X = true
  · rw [if_pos c]
    right
    have hR : xR (xCut (xsSt X 4)) = none := xCut_R _
    have hE : xEnd (xCut (xsSt X 4)) = xCut (xsSt X 4) := by
      unfold xEnd
      rw [hR]
    rw [hE]
    obtain ⟨k1, k2, k3, k4, k5⟩ := xCut_keep (xsSt X 4)
    refine ⟨by rw [k4]; show ¬ 4 = 2; decide, N, Nat.le_succ _, ?_⟩
    have G4 : xGood N H (xCut (xsSt X 4)) := xGood.cut (X := xsSt X 4) G
    have := G4.stop (v := 4) hR (Or.inr rfl)
    have e : xsSt (xCut (xsSt X 4)) 4 = xCut (xsSt X 4) := by
      have : ∀ Z : xs, xSt Z = 4 → xsSt Z 4 = Z := by
        intro Z hZ
        unfold xsSt
        rw [← hZ]
        rfl
      exact this _ k4
    rw [e] at this
    exact this
  · rw [if_neg c]
    by_cases h0 : aop (xC X) (xPc X) = 0
    · rw [if_pos h0]
      right
      have hn : xR X = none := by
        cases h : xR X with
        | none => rfl
        | some r => exact absurd h0 (hr r h).2
      have hE : xEnd (xsSt (xsA X (astep (xC X) (xA X))) 3) = xsSt (xsA X (astep (xC X) (xA X))) 3 := by
        unfold xEnd
        rw [show xR (xsSt (xsA X (astep (xC X) (xA X))) 3) = none from hn]
      rw [hE]
      refine ⟨by show ¬ 3 = 2; decide, N + 1, Nat.le_refl _, ?_⟩
      refine xGood.stop (X := xsA X (astep (xC X) (xA X))) (H := H) ?_ hn (Or.inl rfl)
      obtain ⟨g1, g2, g3, g4, g5, g6⟩ := id G
      refine ⟨g1, astep_n g2, ?_, ?_, g5, fun r hr' => by
        have hr' : xR X = some r := hr'
        rw [hn] at hr'
        cases hr'⟩
      · have := astep_em (cd := xC X) (a := xA X)
        show (astep (xC X) (xA X)).2.2.1 ≤ N + 1
        omega
      · show H (astep (xC X) (xA X)).1 = some (astep (xC X) (xA X)).2.1
        have e1 : (astep (xC X) (xA X)).1 = (xA X).1 := by
          show anext (aop (xC X) (xPc X)) (aarg (xC X) (xA X).1) (xA X).1 (xA X).2.1 (xA X).2.2.2.2.1 = (xA X).1
          rw [h0]
          rfl
        have e2 : (astep (xC X) (xA X)).2.1 = (xA X).2.1 := by
          show (aeff (aop (xC X) (xPc X)) (aarg (xC X) (xA X).1) (xA X).2.1 (xA X).2.2.1 (xA X).2.2.2.2.1 (xA X).2.2.2.2.2.1 (xA X).2.2.2.2.2.2.1 (xA X).2.2.2.2.2.2.2).1 = (xA X).2.1
          rw [h0]
          rfl
        rw [e1, e2]
        exact g4
    · rw [if_neg h0]
      left
      have G1 := G.note c h0 (fun r h => (hr r h).1)
      have G2 := G1.warm th (xPc X)
      obtain ⟨G3, e3⟩ := G2.fend
      refine ⟨?_, G3⟩
      rw [e3, (xWarm_keep th (xPc X) (xNote X)).2.2.1]
      exact hs
end GOOD
