/-! what the values say is true of every run along the path -/
def nSem (v : nv) (val : Nat → Int32) (mem : Nat → Int32) (x : Nat) : Prop :=
  ((nDf v x).1 = 1 → val x = (nDf v x).2.1) ∧
  (∀ o, 4 ≤ o → o ≤ 15 → (nDf v x).1 = o → ∃ l r, l < x ∧ r < x ∧ nDf v x = (o, Int32.ofNat l, Int32.ofNat r) ∧ val x = reck o (val l) (val r)) ∧
  (∀ o, o = 16 ∨ o = 17 → (nDf v x).1 = o → ∃ l, l < x ∧ nDf v x = (o, Int32.ofNat l, -1) ∧ val x = reck o (val l) 0) ∧
  ((nDf v x).1 = 25 → nPk v ≤ x → ∃ p, p < x ∧ nDf v x = (25, Int32.ofNat p, -1) ∧ val x = mem (apl (val p)))
def nS (v : nv) (h : Nat) (stk loc mem : Nat → Int32) (val : Nat → Int32) : Prop := h = nHi v ∧ (∀ i, i < 16 → loc i = val (nLoc v i)) ∧ (∀ i, i < nHi v → stk i = val (nStk v i)) ∧ (∀ i x, i < 32 → nPl v i = some x → mem i = val x) ∧ (∀ x, 32 ≤ x → x < nN v → nSem v val mem x)
theorem nSem.keep {v v' : nv} {val val' mem : Nat → Int32} {x : Nat} (s : nSem v val mem x) (hd : nDf v' x = nDf v x) (hv : ∀ y, y ≤ x → val' y = val y) (hp : nPk v ≤ nPk v') : nSem v' val' mem x := by
  obtain ⟨s1, s2, s3, s4⟩ := s
  refine ⟨fun e => ?_, fun o o1 o2 e => ?_, fun o o1 e => ?_, fun e hx => ?_⟩
  · rw [hd] at e ⊢
    rw [hv x (Nat.le_refl _)]
    exact s1 e
  · rw [hd] at e ⊢
    obtain ⟨l, r, h1, h2, h3, h4⟩ := s2 o o1 o2 e
    exact ⟨l, r, h1, h2, h3, by rw [hv x (Nat.le_refl _), hv l (by omega), hv r (by omega)]; exact h4⟩
  · rw [hd] at e ⊢
    obtain ⟨l, h1, h3, h4⟩ := s3 o o1 e
    exact ⟨l, h1, h3, by rw [hv x (Nat.le_refl _), hv l (by omega)]; exact h4⟩
  · rw [hd] at e ⊢
    obtain ⟨p, h1, h3, h4⟩ := s4 e (by omega)
    exact ⟨p, h1, h3, by rw [hv x (Nat.le_refl _), hv p (by omega)]; exact h4⟩
theorem nCon_val {v : nv} {h : Nat} {stk loc mem val : Nat → Int32} (S : nS v h stk loc mem val) {x : Nat} (hx : x < nN v) (hc : nCon v x = true) : val x = nNum v x := by
  obtain ⟨c1, c2⟩ := nCon_32 hc
  exact (S.2.2.2.2 x c1 hx).1 c2
section SOUND
variable {v : nv} {h : Nat} {stk loc mem val : Nat → Int32}
/-- a new value -/
theorem nS.make (S : nS v h stk loc mem val) (O : nOk v) (o : Nat) (l r : Int32) (c : Int32) (hs : nSem (nMake o l r v) (nSet val (nN v) c) mem (nN v)) : nS (nMake o l r v) h stk loc mem (nSet val (nN v) c) := by
  obtain ⟨s1, s2, s3, s4, s5⟩ := S
  obtain ⟨o1, o2, o3, o4, o5, o6, o7⟩ := O
  refine ⟨s1, fun i hi => ?_, fun i hi => ?_, fun i x hi hx => ?_, fun x h1 h2 => ?_⟩
  · have hl : nLoc v i < nN v := o5 i hi
    show loc i = nSet val (nN v) c (nLoc v i)
    rw [nSet_ne _ _ (by omega)]
    exact s2 i hi
  · have hl : nStk v i < nN v := o6 i hi
    show stk i = nSet val (nN v) c (nStk v i)
    rw [nSet_ne _ _ (by omega)]
    exact s3 i hi
  · have hl : x < nN v := o7 i x hx
    rw [nSet_ne _ _ (by omega)]
    exact s4 i x hi hx
  · have h2 : x < nN v + 1 := h2
    by_cases e : x = nN v
    · rw [e]
      exact hs
    · refine (s5 x h1 (by omega)).keep ?_ (fun y hy => nSet_ne _ _ (by omega)) (Nat.le_refl _)
      show nSet (nDf v) (nN v) (o, l, r) x = nDf v x
      rw [nSet_ne _ _ e]
theorem nS.push (S : nS v h stk loc mem val) {x : Nat} {c : Int32} (hc : c = val x) : nS (nPush x v) (h + 1) (upd stk h c) loc mem val := by
  obtain ⟨s1, s2, s3, s4, s5⟩ := S
  refine ⟨by show h + 1 = nHi v + 1; omega, s2, fun i hi => ?_, s4, s5⟩
  have hi : i < nHi v + 1 := hi
  show upd stk h c i = val (nSet (nStk v) (nHi v) x i)
  by_cases e : i = nHi v
  · rw [e, ← s1, upd_same, nSet_same]
    exact hc
  · rw [upd_ne _ _ (by omega), nSet_ne _ _ e]
    exact s3 i (by omega)
theorem nS.pop (S : nS v h stk loc mem val) (k : Nat) : nS (nPop k v) (h - k) stk loc mem val := by
  obtain ⟨s1, s2, s3, s4, s5⟩ := S
  exact ⟨by show h - k = nHi v - k; omega, s2, fun i hi => s3 i (by have hi : i < nHi v - k := hi; omega), s4, s5⟩
theorem nS.count (S : nS v h stk loc mem val) : nS (nCount v) h stk loc mem val := S
theorem nS.fold (S : nS v h stk loc mem val) : nS (nFold v) h stk loc mem val := S
theorem nS.guard (S : nS v h stk loc mem val) (x k : Nat) : nS (nGuard x k v) h stk loc mem val := by
  unfold nGuard
  split
  · exact S
  · exact S
theorem nS.store (S : nS v h stk loc mem val) (j x : Nat) {c : Int32} (hc : c = val x) : nS (nStore j x v) h stk (upd loc j c) mem val := by
  obtain ⟨s1, s2, s3, s4, s5⟩ := S
  refine ⟨s1, fun i hi => ?_, s3, s4, s5⟩
  show upd loc j c i = val (nSet (nLoc v) j x i)
  by_cases e : i = j
  · rw [e, upd_same, nSet_same]
    exact hc
  · rw [upd_ne _ _ e, nSet_ne _ _ e]
    exact s2 i hi
theorem nSet_old {n : Nat} {c : Int32} {y : Nat} (hy : y < n) : nSet val n c y = val y := nSet_ne _ _ (by omega)
/-- a constant, found or made -/
theorem nS.const (S : nS v h stk loc mem val) (O : nOk v) (c : Int32) : ∃ val', nS (nConst c v).2 h stk loc mem val' ∧ val' (nConst c v).1 = c ∧ ∀ y, y < nN v → val' y = val y := by
  unfold nConst
  cases hl : nLook v 1 c (-1) 32 with
  | some i =>
    obtain ⟨l1, l2, l3⟩ := nLook_lt hl
    refine ⟨val, S, ?_, fun _ _ => rfl⟩
    have := (S.2.2.2.2 i l1 l2).1 (by rw [l3])
    rw [l3] at this
    exact this
  | none =>
    refine ⟨nSet val (nN v) c, S.make O 1 c (-1) c ?_, nSet_same _ _ _, fun y hy => nSet_old hy⟩
    have hd : nDf (nMake 1 c (-1) v) (nN v) = (1, c, -1) := nSet_same _ _ _
    refine ⟨fun _ => by rw [hd, nSet_same], fun o o1 o2 e => ?_, fun o o1 e => ?_, fun e => ?_⟩
    · rw [hd] at e
      dsimp only at e
      omega
    · rw [hd] at e
      dsimp only at e
      omega
    · rw [hd] at e
      dsimp only at e
      omega
theorem nS.op2 (S : nS v h stk loc mem val) (O : nOk v) (hn : nN v ≤ 80) {o l r : Nat} (h4 : 4 ≤ o) (h15 : o ≤ 15) (hl : l < nN v) (hr : r < nN v) : ∃ val', nS (nOp o (Int32.ofNat l) (Int32.ofNat r) 32 v).2 h stk loc mem val' ∧ val' (nOp o (Int32.ofNat l) (Int32.ofNat r) 32 v).1 = reck o (val l) (val r) ∧ ∀ y, y < nN v → val' y = val y := by
  unfold nOp
  cases hk : nLook v o (Int32.ofNat l) (Int32.ofNat r) 32 with
  | some i =>
    obtain ⟨l1, l2, l3⟩ := nLook_lt hk
    refine ⟨val, S, ?_, fun _ _ => rfl⟩
    obtain ⟨l', r', q1, q2, q3, q4⟩ := (S.2.2.2.2 i l1 l2).2.1 o h4 h15 (by rw [l3])
    rw [l3] at q3
    have e1 : Int32.ofNat l = Int32.ofNat l' := congrArg (fun z => z.2.1) q3
    have e2 : Int32.ofNat r = Int32.ofNat r' := congrArg (fun z => z.2.2) q3
    rw [n_eq (by omega) (by omega)] at e1 e2
    rw [q4, e1, e2]
  | none =>
    refine ⟨nSet val (nN v) (reck o (val l) (val r)), (S.make O o _ _ _ ?_).count, nSet_same _ _ _, fun y hy => nSet_old hy⟩
    have hd : nDf (nMake o (Int32.ofNat l) (Int32.ofNat r) v) (nN v) = (o, Int32.ofNat l, Int32.ofNat r) := nSet_same _ _ _
    refine ⟨fun e => ?_, fun o' o1 o2 e => ?_, fun o' o1 e => ?_, fun e => ?_⟩
    · rw [hd] at e
      dsimp only at e
      omega
    · rw [hd] at e ⊢
      dsimp only at e
      subst e
      exact ⟨l, r, hl, hr, rfl, by rw [nSet_same, nSet_old hl, nSet_old hr]⟩
    · rw [hd] at e
      dsimp only at e
      omega
    · rw [hd] at e
      dsimp only at e
      omega
theorem nS.op1 (S : nS v h stk loc mem val) (O : nOk v) (hn : nN v ≤ 80) {o l : Nat} (ho : o = 16 ∨ o = 17) (hl : l < nN v) : ∃ val', nS (nOp o (Int32.ofNat l) (-1) 32 v).2 h stk loc mem val' ∧ val' (nOp o (Int32.ofNat l) (-1) 32 v).1 = reck o (val l) 0 ∧ ∀ y, y < nN v → val' y = val y := by
  unfold nOp
  cases hk : nLook v o (Int32.ofNat l) (-1) 32 with
  | some i =>
    obtain ⟨l1, l2, l3⟩ := nLook_lt hk
    refine ⟨val, S, ?_, fun _ _ => rfl⟩
    obtain ⟨l', q1, q3, q4⟩ := (S.2.2.2.2 i l1 l2).2.2.1 o ho (by rw [l3])
    rw [l3] at q3
    have e1 : Int32.ofNat l = Int32.ofNat l' := congrArg (fun z => z.2.1) q3
    rw [n_eq (by omega) (by omega)] at e1
    rw [q4, e1]
  | none =>
    refine ⟨nSet val (nN v) (reck o (val l) 0), (S.make O o _ _ _ ?_).count, nSet_same _ _ _, fun y hy => nSet_old hy⟩
    have hd : nDf (nMake o (Int32.ofNat l) (-1) v) (nN v) = (o, Int32.ofNat l, -1) := nSet_same _ _ _
    refine ⟨fun e => ?_, fun o' o1 o2 e => ?_, fun o' o1 e => ?_, fun e => ?_⟩
    · rw [hd] at e
      dsimp only at e
      omega
    · rw [hd] at e
      dsimp only at e
      omega
    · rw [hd] at e ⊢
      dsimp only at e
      subst e
      exact ⟨l, hl, rfl, by rw [nSet_same, nSet_old hl]⟩
    · rw [hd] at e
      dsimp only at e
      omega
theorem nSem_peek {p : Nat} (hp : p < nN v) : nSem (nMake 25 (Int32.ofNat p) (-1) v) (nSet val (nN v) (mem (apl (val p)))) mem (nN v) := by
  have hd : nDf (nMake 25 (Int32.ofNat p) (-1) v) (nN v) = (25, Int32.ofNat p, -1) := nSet_same _ _ _
  refine ⟨fun e => ?_, fun o' o1 o2 e => ?_, fun o' o1 e => ?_, fun _ _ => ?_⟩
  · rw [hd] at e
    dsimp only at e
    omega
  · rw [hd] at e
    dsimp only at e
    omega
  · rw [hd] at e
    dsimp only at e
    omega
  · rw [hd]
    exact ⟨p, hp, rfl, by rw [nSet_same, nSet_old hp]⟩
theorem nS.peekV (S : nS v h stk loc mem val) (O : nOk v) (hn : nN v ≤ 80) {p : Nat} (hp : p < nN v) : ∃ val', nS (nOp 25 (Int32.ofNat p) (-1) (nPk v) v).2 h stk loc mem val' ∧ val' (nOp 25 (Int32.ofNat p) (-1) (nPk v) v).1 = mem (apl (val p)) ∧ ∀ y, y < nN v → val' y = val y := by
  unfold nOp
  cases hk : nLook v 25 (Int32.ofNat p) (-1) (nPk v) with
  | some i =>
    obtain ⟨l1, l2, l3⟩ := nLook_lt hk
    refine ⟨val, S, ?_, fun _ _ => rfl⟩
    have h32 := O.2.1
    obtain ⟨p', q1, q3, q4⟩ := (S.2.2.2.2 i (by omega) l2).2.2.2 (by rw [l3]) l1
    rw [l3] at q3
    have e1 : Int32.ofNat p = Int32.ofNat p' := congrArg (fun z => z.2.1) q3
    rw [n_eq (by omega) (by omega)] at e1
    rw [q4, e1]
  | none =>
    exact ⟨nSet val (nN v) (mem (apl (val p))), (S.make O 25 _ _ _ (nSem_peek hp)).count, nSet_same _ _ _, fun y hy => nSet_old hy⟩
set_option maxHeartbeats 1000000 in
/-- ONE STEP: what the values say stays true -/
theorem nStep_sound {cd : Nat → Int32} {k p em : Nat} {out : Nat → Int32} (S : nS v h stk loc mem val) (O : nOk v) (hn : nN v ≤ 79) (G : nGo cd p v) : ∃ val', nS (nStep cd k p v) (aeff (aop cd p) (aarg cd p) h em stk loc mem out).1 (aeff (aop cd p) (aarg cd p) h em stk loc mem out).2.2.1 (aeff (aop cd p) (aarg cd p) h em stk loc mem out).2.2.2.1 (aeff (aop cd p) (aarg cd p) h em stk loc mem out).2.2.2.2.1 val' ∧ ∀ y, y < nN v → val' y = val y := by
  obtain ⟨g1, g2, g3, g4⟩ := G
  have hh : h = nHi v := S.1
  have h16 := O.2.2.2.1
  have stk1 : 1 ≤ nHi v → nStk v (nHi v - 1) < nN v ∧ stk (h - 1) = val (nStk v (nHi v - 1)) := fun e => ⟨O.2.2.2.2.2.1 _ (by omega), by rw [hh]; exact S.2.2.1 _ (by omega)⟩
  have stk2 : 2 ≤ nHi v → nStk v (nHi v - 2) < nN v ∧ stk (h - 2) = val (nStk v (nHi v - 2)) := fun e => ⟨O.2.2.2.2.2.1 _ (by omega), by rw [hh]; exact S.2.2.1 _ (by omega)⟩
  unfold nStep aeff
  generalize aop cd p = o at *
  generalize aarg cd p = x at *
  by_cases ha : 4 ≤ o ∧ o ≤ 15
  · rw [if_pos ha, if_pos ha]
    have e1 : tk o = 2 := by unfold tk; rw [if_neg (by omega), if_pos (Or.inl ha)]
    rw [e1] at g2
    obtain ⟨l1, l2⟩ := stk1 (by omega)
    obtain ⟨m1, m2⟩ := stk2 (by omega)
    unfold nWork2
    dsimp only
    rw [m2, l2]
    generalize nStk v (nHi v - 1) = r at *
    generalize nStk v (nHi v - 2) = l at *
    have main : ∀ u : nv, nS u (h - 2) stk loc mem val → nOk u → nN u = nN v → ∃ val', nS (if nCon u l = true ∧ nCon u r = true then nPut (nConst (reck o (nNum u l) (nNum u r)) (nFold u)) else nPut (nOp o (Int32.ofNat l) (Int32.ofNat r) 32 u)) (h - 1) (upd stk (h - 2) (reck o (val l) (val r))) loc mem val' ∧ ∀ y, y < nN v → val' y = val y := by
      intro u Su Ou nu
      by_cases hc : nCon u l = true ∧ nCon u r = true
      · rw [if_pos hc]
        obtain ⟨val', a1, a2, a3⟩ := Su.fold.const Ou.fold (reck o (nNum u l) (nNum u r))
        refine ⟨val', ?_, fun y hy => a3 y (show y < nN u by omega)⟩
        have := a1.push (x := (nConst (reck o (nNum u l) (nNum u r)) (nFold u)).1) (c := reck o (val l) (val r)) (by rw [a2, nCon_val Su (by omega) hc.1, nCon_val Su (by omega) hc.2])
        rw [show h - 2 + 1 = h - 1 from by omega] at this
        exact this
      · rw [if_neg hc]
        obtain ⟨val', a1, a2, a3⟩ := Su.op2 Ou (by omega) ha.1 ha.2 (l := l) (r := r) (by omega) (by omega)
        refine ⟨val', ?_, fun y hy => a3 y (by omega)⟩
        have := a1.push (x := (nOp o (Int32.ofNat l) (Int32.ofNat r) 32 u).1) (c := reck o (val l) (val r)) a2.symm
        rw [show h - 2 + 1 = h - 1 from by omega] at this
        exact this
    by_cases h7 : o = 7 ∨ o = 8
    · rw [if_pos h7]
      exact main _ ((S.pop 2).guard r k) ((O.pop 2).guard r k) (nGuard_hi r k (nPop 2 v)).2.1
    · rw [if_neg h7]
      exact main _ (S.pop 2) (O.pop 2) rfl
  · rw [if_neg ha, if_neg ha]
    have w1 : ∀ o, (o = 16 ∨ o = 17) → 1 ≤ nHi v → ∃ val', nS (nWork1 o v) h (upd stk (h - 1) (reck o (stk (h - 1)) 0)) loc mem val' ∧ ∀ y, y < nN v → val' y = val y := by
      intro o ho h1
      obtain ⟨l1, l2⟩ := stk1 h1
      unfold nWork1
      dsimp only
      rw [l2]
      generalize nStk v (nHi v - 1) = l at *
      by_cases hc : nCon (nPop 1 v) l = true
      · rw [if_pos hc]
        obtain ⟨val', a1, a2, a3⟩ := (S.pop 1).fold.const (O.pop 1).fold (reck o (nNum (nPop 1 v) l) 0)
        refine ⟨val', ?_, fun y hy => a3 y hy⟩
        have := a1.push (x := (nConst (reck o (nNum (nPop 1 v) l) 0) (nFold (nPop 1 v))).1) (c := reck o (val l) 0) (by rw [a2, nCon_val (S.pop 1) l1 hc])
        rw [show h - 1 + 1 = h from by omega] at this
        exact this
      · rw [if_neg hc]
        obtain ⟨val', a1, a2, a3⟩ := (S.pop 1).op1 (O.pop 1) (show nN v ≤ 80 by omega) ho (l := l) l1
        refine ⟨val', ?_, fun y hy => a3 y hy⟩
        have := a1.push (x := (nOp o (Int32.ofNat l) (-1) 32 (nPop 1 v)).1) (c := reck o (val l) 0) a2.symm
        rw [show h - 1 + 1 = h from by omega] at this
        exact this
    obtain e | e | e | e | e | e | e | e | e | e | e | e | e | e | e : o = 0 ∨ o = 1 ∨ o = 2 ∨ o = 3 ∨ o = 16 ∨ o = 17 ∨ o = 18 ∨ o = 19 ∨ o = 20 ∨ o = 21 ∨ o = 22 ∨ o = 23 ∨ o = 24 ∨ o = 25 ∨ o = 26 := by
      clear g4
      omega
    all_goals
      subst e
      simp only [tk, pt] at g2 g3
      simp only [reduceIte, Nat.reduceEqDiff, or_false, false_or, or_true, true_or, Nat.reduceLeDiff, and_false, false_and, and_true, true_and, Nat.sub_zero] at g2 g3
    · exact ⟨val, S, fun _ _ => rfl⟩
    · obtain ⟨val', a1, a2, a3⟩ := S.const O x
      exact ⟨val', a1.push (x := (nConst x v).1) a2.symm, a3⟩
    · obtain ⟨j, hj, rfl⟩ := g4 (Or.inl rfl)
      rw [n_cl (by omega)]
      exact ⟨val, S.push (S.2.1 j hj), fun _ _ => rfl⟩
    · obtain ⟨l1, l2⟩ := stk1 (by omega)
      exact ⟨val, (S.pop 1).store _ _ l2, fun _ _ => rfl⟩
    · exact w1 16 (Or.inl rfl) (by omega)
    · exact w1 17 (Or.inr rfl) (by omega)
    · obtain ⟨l1, l2⟩ := stk1 (by omega)
      exact ⟨val, S.push l2, fun _ _ => rfl⟩
    · obtain ⟨l1, l2⟩ := stk1 (by omega)
      obtain ⟨m1, m2⟩ := stk2 (by omega)
      have := ((S.pop 2).push (x := nStk v (nHi v - 1)) l2).push (x := nStk v (nHi v - 2)) m2
      rw [show h - 2 + 1 + 1 = h from by omega, show h - 2 + 1 = h - 1 from by omega] at this
      exact ⟨val, this, fun _ _ => rfl⟩
    · exact ⟨val, S.pop 1, fun _ _ => rfl⟩
    · exact ⟨val, S, fun _ _ => rfl⟩
    · exact ⟨val, (S.pop 1).guard _ _, fun _ _ => rfl⟩
    · exact ⟨val, (S.pop 1).guard _ _, fun _ _ => rfl⟩
    · exact ⟨val, S.pop 1, fun _ _ => rfl⟩
    · obtain ⟨l1, l2⟩ := stk1 (by omega)
      have O1 := O.pop 1
      have S1 := S.pop 1
      unfold nPeek
      dsimp only
      rw [l2]
      generalize nStk v (nHi v - 1) = q at *
      by_cases hc : nCon (nPop 1 v) q = true
      · rw [if_pos hc]
        have ev : val q = nNum (nPop 1 v) q := nCon_val S1 l1 hc
        cases hq : nPl (nPop 1 v) (apl (nNum (nPop 1 v) q)) with
        | some i =>
          have hm := S1.2.2.2.1 _ _ (by have := (apl_eq (nNum (nPop 1 v) q)).2; omega) hq
          have := S1.push (x := i) (c := mem (apl (val q))) (by rw [ev]; exact hm)
          rw [show h - 1 + 1 = h from by omega] at this
          exact ⟨val, this, fun _ _ => rfl⟩
        | none =>
          have S2 := (S1.make O1 25 (Int32.ofNat q) (-1) (mem (apl (val q))) (nSem_peek (v := nPop 1 v) (val := val) (mem := mem) l1)).count
          have S3 : nS (nPlace (apl (nNum (nPop 1 v) q)) (nN (nPop 1 v)) (nCount (nMake 25 (Int32.ofNat q) (-1) (nPop 1 v)))) (h - 1) stk loc mem (nSet val (nN (nPop 1 v)) (mem (apl (val q)))) := by
            obtain ⟨t1, t2, t3, t4, t5⟩ := S2
            refine ⟨t1, t2, t3, fun i y hi hy => ?_, t5⟩
            have hy : nSet (nPl v) (apl (nNum (nPop 1 v) q)) (some (nN v)) i = some y := hy
            by_cases e : i = apl (nNum (nPop 1 v) q)
            · rw [e, nSet_same] at hy
              cases hy
              rw [e, ← ev]
              exact (nSet_same _ _ _).symm
            · rw [nSet_ne _ _ e] at hy
              exact t4 i y hi hy
          have := S3.push (x := nN (nPop 1 v)) (c := mem (apl (val q))) (nSet_same _ _ _).symm
          rw [show h - 1 + 1 = h from by omega] at this
          exact ⟨_, this, fun y hy => nSet_old hy⟩
      · rw [if_neg hc]
        obtain ⟨val', a1, a2, a3⟩ := S1.peekV O1 (show nN v ≤ 80 by omega) (p := q) l1
        have := a1.push (x := (nOp 25 (Int32.ofNat q) (-1) (nPk (nPop 1 v)) (nPop 1 v)).1) (c := mem (apl (val q))) a2.symm
        rw [show h - 1 + 1 = h from by omega] at this
        exact ⟨val', this, fun y hy => a3 y hy⟩
    · obtain ⟨l1, l2⟩ := stk1 (by omega)
      obtain ⟨m1, m2⟩ := stk2 (by omega)
      unfold nPoke
      dsimp only
      rw [m2, l2]
      generalize nStk v (nHi v - 1) = y9 at *
      generalize nStk v (nHi v - 2) = q at *
      have Sm : ∀ mem', (∀ x, 32 ≤ x → x < nN v → nSem (nMark (nPop 2 v)) val mem' x) := by
        intro mem' x x1 x2
        obtain ⟨s1, s2, s3, s4⟩ := S.2.2.2.2 x x1 x2
        exact ⟨s1, s2, s3, fun _ e => absurd e (by show ¬ nN v ≤ x; omega)⟩
      refine ⟨val, ?_, fun _ _ => rfl⟩
      by_cases hc : nCon (nMark (nPop 2 v)) q = true
      · rw [if_pos hc]
        have ev : val q = nNum v q := nCon_val S m1 hc
        refine ⟨by show h - 2 = nHi v - 2; omega, S.2.1, fun i hi => S.2.2.1 i (by have hi : i < nHi v - 2 := hi; omega), fun i y hi hy => ?_, Sm _⟩
        have hy : nSet (nPl v) (apl (nNum v q)) (some y9) i = some y := hy
        show upd mem (apl (val q)) (val y9) i = val y
        by_cases e : i = apl (nNum v q)
        · rw [e, nSet_same] at hy
          cases hy
          rw [e, ev, upd_same]
        · rw [nSet_ne _ _ e] at hy
          rw [upd_ne _ _ (by rw [ev]; exact e)]
          exact S.2.2.2.1 i y hi hy
      · rw [if_neg hc]
        exact ⟨by show h - 2 = nHi v - 2; omega, S.2.1, fun i hi => S.2.2.1 i (by have hi : i < nHi v - 2 := hi; omega), fun i y hi (hy : (none : Option Nat) = some y) => (by cases hy), Sm _⟩
end SOUND
