/-! what a look keeps; the class finds all values of a path -/
theorem nPut_facts (r : Nat × nv) : nHi (nPut r) = nHi r.2 + 1 ∧ nN (nPut r) = nN r.2 ∧ nGs (nPut r) = nGs r.2 ∧ nGa (nPut r) = nGa r.2 := ⟨rfl, rfl, rfl, rfl⟩
theorem nConst_gs (c : Int32) (v : nv) : nGs (nConst c v).2 = nGs v ∧ nGa (nConst c v).2 = nGa v := by
  unfold nConst
  split <;> exact ⟨rfl, rfl⟩
theorem nOp_gs (o : Nat) (l r : Int32) (fr : Nat) (v : nv) : nGs (nOp o l r fr v).2 = nGs v ∧ nGa (nOp o l r fr v).2 = nGa v := by
  unfold nOp
  split <;> exact ⟨rfl, rfl⟩
/-- what a step keeps of the guards -/
def nGk (k : Nat) (v v' : nv) : Prop := nGs v ≤ nGs v' ∧ nGs v' ≤ nGs v + 1 ∧ ((∀ j, j < nGs v → nGa v j < k) → ∀ j, j < nGs v' → nGa v' j < k + 1)
theorem nGk.same {k : Nat} {v v' : nv} (h1 : nGs v' = nGs v) (h2 : nGa v' = nGa v) : nGk k v v' := by
  refine ⟨by omega, by omega, fun h j hj => ?_⟩
  rw [h2]
  exact Nat.lt_succ_of_lt (h j (by omega))
theorem nGuard_gk (x k : Nat) (v u : nv) (h1 : nGs u = nGs v) (h2 : nGa u = nGa v) : nGk k v (nGuard x k u) := by
  unfold nGuard
  split
  · exact nGk.same h1 h2
  · refine ⟨?_, ?_, fun h j hj => ?_⟩
    · show nGs v ≤ nGs u + 1
      omega
    · show nGs u + 1 ≤ nGs v + 1
      omega
    · have hj : j < nGs u + 1 := hj
      show nSet (nGa u) (nGs u) k j < k + 1
      by_cases e : j = nGs u
      · rw [e, nSet_same]
        omega
      · rw [nSet_ne _ _ e, h2]
        exact Nat.lt_succ_of_lt (h j (by omega))
set_option maxHeartbeats 1000000 in
theorem nStep_ok {cd : Nat → Int32} {k p : Nat} {v : nv} (O : nOk v) (G : nGo cd p v) : nOk (nStep cd k p v) ∧ nHi (nStep cd k p v) = nHi v - tk (aop cd p) + pt (aop cd p) ∧ nN v ≤ nN (nStep cd k p v) ∧ nN (nStep cd k p v) ≤ nN v + 1 ∧ nGk k v (nStep cd k p v) := by
  obtain ⟨g1, g2, g3, g4⟩ := G
  have h16 := O.2.2.2.1
  have stk1 : 1 ≤ nHi v → nStk v (nHi v - 1) < nN v := fun h => O.2.2.2.2.2.1 _ (by omega)
  have stk2 : 2 ≤ nHi v → nStk v (nHi v - 2) < nN v := fun h => O.2.2.2.2.2.1 _ (by omega)
  unfold nStep
  generalize aop cd p = o at *
  generalize aarg cd p = x at *
  -- a value found or made, then pushed
  have putC : ∀ (u : nv) (c : Int32), nOk u → nHi u < 16 → nN u = nN v → nGk k v u → nOk (nPut (nConst c u)) ∧ nHi (nPut (nConst c u)) = nHi u + 1 ∧ nN v ≤ nN (nPut (nConst c u)) ∧ nN (nPut (nConst c u)) ≤ nN v + 1 ∧ nGk k v (nPut (nConst c u)) := by
    intro u c Ou hu nu gu
    obtain ⟨c1, c2, c3, c4, c5⟩ := nConst_ok Ou c
    obtain ⟨s1, s2⟩ := nConst_gs c u
    refine ⟨c1.push c2 (by omega), ?_, ?_, ?_, ?_⟩
    · show nHi (nConst c u).2 + 1 = _
      omega
    · show nN v ≤ nN (nConst c u).2
      omega
    · show nN (nConst c u).2 ≤ nN v + 1
      omega
    · refine ⟨?_, ?_, ?_⟩
      · show nGs v ≤ nGs (nConst c u).2
        rw [s1]; exact gu.1
      · show nGs (nConst c u).2 ≤ nGs v + 1
        rw [s1]; exact gu.2.1
      · intro h j hj
        have hj : j < nGs (nConst c u).2 := hj
        show nGa (nConst c u).2 j < k + 1
        rw [s2]
        exact gu.2.2 h j (by rw [s1] at hj; exact hj)
  have putO : ∀ (u : nv) (o : Nat) (l r : Int32) (fr : Nat), nOk u → nHi u < 16 → nN u = nN v → nGk k v u → nOk (nPut (nOp o l r fr u)) ∧ nHi (nPut (nOp o l r fr u)) = nHi u + 1 ∧ nN v ≤ nN (nPut (nOp o l r fr u)) ∧ nN (nPut (nOp o l r fr u)) ≤ nN v + 1 ∧ nGk k v (nPut (nOp o l r fr u)) := by
    intro u o l r fr Ou hu nu gu
    obtain ⟨c1, c2, c3, c4, c5⟩ := nOp_ok Ou o l r fr
    obtain ⟨s1, s2⟩ := nOp_gs o l r fr u
    refine ⟨c1.push c2 (by omega), ?_, ?_, ?_, ?_⟩
    · show nHi (nOp o l r fr u).2 + 1 = _
      omega
    · show nN v ≤ nN (nOp o l r fr u).2
      omega
    · show nN (nOp o l r fr u).2 ≤ nN v + 1
      omega
    · refine ⟨?_, ?_, ?_⟩
      · show nGs v ≤ nGs (nOp o l r fr u).2
        rw [s1]; exact gu.1
      · show nGs (nOp o l r fr u).2 ≤ nGs v + 1
        rw [s1]; exact gu.2.1
      · intro h j hj
        have hj : j < nGs (nOp o l r fr u).2 := hj
        show nGa (nOp o l r fr u).2 j < k + 1
        rw [s2]
        exact gu.2.2 h j (by rw [s1] at hj; exact hj)
  have same : ∀ (u : nv), nGs u = nGs v → nGa u = nGa v → nGk k v u := fun u h1 h2 => nGk.same h1 h2
  by_cases ha : 4 ≤ o ∧ o ≤ 15
  · rw [if_pos ha]
    have e1 : tk o = 2 := by unfold tk; rw [if_neg (by omega), if_pos (Or.inl ha)]
    have e2 : pt o = 1 := by unfold pt; rw [if_neg (by omega), if_pos (by omega)]
    rw [e1, e2]
    rw [e1] at g2
    unfold nWork2
    dsimp only
    have main : ∀ u, nOk u → nHi u = nHi v - 2 → nN u = nN v → nGk k v u → nOk (if nCon u (nStk v (nHi v - 2)) = true ∧ nCon u (nStk v (nHi v - 1)) = true then nPut (nConst (reck o (nNum u (nStk v (nHi v - 2))) (nNum u (nStk v (nHi v - 1)))) (nFold u)) else nPut (nOp o (Int32.ofNat (nStk v (nHi v - 2))) (Int32.ofNat (nStk v (nHi v - 1))) 32 u)) ∧ nHi (if nCon u (nStk v (nHi v - 2)) = true ∧ nCon u (nStk v (nHi v - 1)) = true then nPut (nConst (reck o (nNum u (nStk v (nHi v - 2))) (nNum u (nStk v (nHi v - 1)))) (nFold u)) else nPut (nOp o (Int32.ofNat (nStk v (nHi v - 2))) (Int32.ofNat (nStk v (nHi v - 1))) 32 u)) = nHi v - 2 + 1 ∧ nN v ≤ nN (if nCon u (nStk v (nHi v - 2)) = true ∧ nCon u (nStk v (nHi v - 1)) = true then nPut (nConst (reck o (nNum u (nStk v (nHi v - 2))) (nNum u (nStk v (nHi v - 1)))) (nFold u)) else nPut (nOp o (Int32.ofNat (nStk v (nHi v - 2))) (Int32.ofNat (nStk v (nHi v - 1))) 32 u)) ∧ nN (if nCon u (nStk v (nHi v - 2)) = true ∧ nCon u (nStk v (nHi v - 1)) = true then nPut (nConst (reck o (nNum u (nStk v (nHi v - 2))) (nNum u (nStk v (nHi v - 1)))) (nFold u)) else nPut (nOp o (Int32.ofNat (nStk v (nHi v - 2))) (Int32.ofNat (nStk v (nHi v - 1))) 32 u)) ≤ nN v + 1 ∧ nGk k v (if nCon u (nStk v (nHi v - 2)) = true ∧ nCon u (nStk v (nHi v - 1)) = true then nPut (nConst (reck o (nNum u (nStk v (nHi v - 2))) (nNum u (nStk v (nHi v - 1)))) (nFold u)) else nPut (nOp o (Int32.ofNat (nStk v (nHi v - 2))) (Int32.ofNat (nStk v (nHi v - 1))) 32 u)) := by
      intro u Ou hu nu gu
      split
      · have := putC (nFold u) (reck o (nNum u (nStk v (nHi v - 2))) (nNum u (nStk v (nHi v - 1)))) Ou.fold (show nHi u < 16 by omega) nu gu
        rw [show nHi (nFold u) = nHi v - 2 from hu] at this
        exact this
      · have := putO u o (Int32.ofNat (nStk v (nHi v - 2))) (Int32.ofNat (nStk v (nHi v - 1))) 32 Ou (by omega) nu gu
        rw [hu] at this
        exact this
    by_cases h7 : o = 7 ∨ o = 8
    · rw [if_pos h7]
      obtain ⟨q1, q2, -⟩ := nGuard_hi (nStk v (nHi v - 1)) k (nPop 2 v)
      exact main _ ((O.pop 2).guard _ _) q1 q2 (nGuard_gk _ _ _ _ rfl rfl)
    · rw [if_neg h7]
      exact main _ (O.pop 2) rfl rfl (same _ rfl rfl)
  · rw [if_neg ha]
    have w1 : ∀ o, nOk (nPop 1 v) → 1 ≤ nHi v → nOk (nWork1 o v) ∧ nHi (nWork1 o v) = nHi v ∧ nN v ≤ nN (nWork1 o v) ∧ nN (nWork1 o v) ≤ nN v + 1 ∧ nGk k v (nWork1 o v) := by
      intro o O1 h1
      unfold nWork1
      dsimp only
      split
      · have := putC (nFold (nPop 1 v)) (reck o (nNum (nPop 1 v) (nStk v (nHi v - 1))) 0) O1.fold (show nHi v - 1 < 16 by omega) rfl (same _ rfl rfl)
        rw [show nHi (nFold (nPop 1 v)) + 1 = nHi v from by show nHi v - 1 + 1 = nHi v; omega] at this
        exact this
      · have := putO (nPop 1 v) o (Int32.ofNat (nStk v (nHi v - 1))) (-1) 32 O1 (show nHi v - 1 < 16 by omega) rfl (same _ rfl rfl)
        rw [show nHi (nPop 1 v) + 1 = nHi v from by show nHi v - 1 + 1 = nHi v; omega] at this
        exact this
    obtain e | e | e | e | e | e | e | e | e | e | e | e | e | e | e : o = 0 ∨ o = 1 ∨ o = 2 ∨ o = 3 ∨ o = 16 ∨ o = 17 ∨ o = 18 ∨ o = 19 ∨ o = 20 ∨ o = 21 ∨ o = 22 ∨ o = 23 ∨ o = 24 ∨ o = 25 ∨ o = 26 := by
      clear g4
      omega
    all_goals
      subst e
      simp only [tk, pt] at g2 g3 ⊢
      simp only [reduceIte, Nat.reduceEqDiff, or_false, false_or, or_true, true_or, Nat.reduceLeDiff, and_false, false_and, and_true, true_and, Nat.sub_zero] at g2 g3 ⊢
    · exact ⟨O, rfl, Nat.le_refl _, Nat.le_succ _, same _ rfl rfl⟩
    · exact putC v x O (by omega) rfl (same _ rfl rfl)
    · obtain ⟨j, hj, rfl⟩ := g4 (Or.inl rfl)
      rw [n_cl (by omega)]
      exact ⟨O.push (O.2.2.2.2.1 j hj) (by omega), rfl, Nat.le_refl _, Nat.le_succ _, same _ rfl rfl⟩
    · exact ⟨(O.pop 1).store (show nStk v (nHi v - 1) < nN v from stk1 (by omega)), rfl, Nat.le_refl _, Nat.le_succ _, same _ rfl rfl⟩
    · have := w1 16 (O.pop 1) (by omega)
      rw [show nHi v - 1 + 1 = nHi v from by omega]
      exact this
    · have := w1 17 (O.pop 1) (by omega)
      rw [show nHi v - 1 + 1 = nHi v from by omega]
      exact this
    · refine ⟨O.push (stk1 (by omega)) (by omega), ?_, Nat.le_refl _, Nat.le_succ _, same _ rfl rfl⟩
      show nHi v + 1 = _
      omega
    · have O2 := (O.pop 2).push (x := nStk v (nHi v - 1)) (show nStk v (nHi v - 1) < nN v from stk1 (by omega)) (show nHi v - 2 < 16 by omega)
      refine ⟨O2.push (show nStk v (nHi v - 2) < nN v from stk2 (by omega)) (show nHi v - 2 + 1 < 16 by omega), ?_, Nat.le_refl _, Nat.le_succ _, same _ rfl rfl⟩
      show nHi v - 2 + 1 + 1 = _
      omega
    · exact ⟨O.pop 1, rfl, Nat.le_refl _, Nat.le_succ _, same _ rfl rfl⟩
    · exact ⟨O, rfl, Nat.le_refl _, Nat.le_succ _, same _ rfl rfl⟩
    · obtain ⟨q1, q2, -⟩ := nGuard_hi (nStk v (nHi v - 1)) k (nPop 1 v)
      exact ⟨(O.pop 1).guard _ _, q1, by rw [q2]; exact Nat.le_refl _, by rw [q2]; exact Nat.le_succ _, nGuard_gk _ _ _ _ rfl rfl⟩
    · obtain ⟨q1, q2, -⟩ := nGuard_hi (nStk v (nHi v - 1)) k (nPop 1 v)
      exact ⟨(O.pop 1).guard _ _, q1, by rw [q2]; exact Nat.le_refl _, by rw [q2]; exact Nat.le_succ _, nGuard_gk _ _ _ _ rfl rfl⟩
    · exact ⟨O.pop 1, rfl, Nat.le_refl _, Nat.le_succ _, same _ rfl rfl⟩
    · have O1 := O.pop 1
      have hh : nHi (nPop 1 v) = nHi v - 1 := rfl
      rw [show nHi v - 1 + 1 = nHi v from by omega]
      unfold nPeek
      dsimp only
      split
      · split
        · rename_i i hi
          refine ⟨O1.push (O1.2.2.2.2.2.2 _ _ hi) (show nHi v - 1 < 16 by omega), ?_, Nat.le_refl _, Nat.le_succ _, same _ rfl rfl⟩
          show nHi v - 1 + 1 = nHi v
          omega
        · have O3 := ((O1.make 25 (Int32.ofNat (nStk v (nHi v - 1))) (-1)).count).place (i := apl (nNum (nPop 1 v) (nStk v (nHi v - 1)))) (x := nN v) (show nN v < nN v + 1 by omega)
          refine ⟨O3.push (x := nN v) (show nN v < nN v + 1 by omega) (show nHi v - 1 < 16 by omega), ?_, Nat.le_succ _, Nat.le_refl _, same _ rfl rfl⟩
          show nHi v - 1 + 1 = nHi v
          omega
      · have := putO (nPop 1 v) 25 (Int32.ofNat (nStk v (nHi v - 1))) (-1) (nPk (nPop 1 v)) O1 (show nHi v - 1 < 16 by omega) rfl (same _ rfl rfl)
        rw [show nHi (nPop 1 v) + 1 = nHi v from by show nHi v - 1 + 1 = nHi v; omega] at this
        exact this
    · have O1 := (O.pop 2).mark
      unfold nPoke
      dsimp only
      split
      · exact ⟨O1.place (show nStk v (nHi v - 1) < nN v from stk1 (by omega)), rfl, Nat.le_refl _, Nat.le_succ _, same _ rfl rfl⟩
      · exact ⟨O1.clear, rfl, Nat.le_refl _, Nat.le_succ _, same _ rfl rfl⟩
theorem nRun_snoc (cd : Nat → Int32) (ad : Nat → Nat) : ∀ (j k : Nat) (v : nv), nRun cd ad (j + 1) k v = nStep cd (k + j) (ad (k + j)) (nRun cd ad j k v) := by
  intro j
  induction j with
  | zero => intro k v; rfl
  | succ j ih =>
    intro k v
    show nRun cd ad (j + 1) (k + 1) (nStep cd k (ad k) v) = _
    rw [ih (k + 1)]
    rw [show k + 1 + j = k + (j + 1) from by omega]
    rfl
/-- the values after i steps -/
def nAt (cd : Nat → Int32) (ad : Nat → Nat) (h i : Nat) : nv := nRun cd ad i 0 (nInit h)
theorem nAt_succ (cd : Nat → Int32) (ad : Nat → Nat) (h i : Nat) : nAt cd ad h (i + 1) = nStep cd i (ad i) (nAt cd ad h i) := by
  unfold nAt
  rw [nRun_snoc]
  rw [Nat.zero_add]
/-- along a path whose heights are right -/
theorem nAt_ok {m : Nat} {cd : Nat → Int32} {H : Nat → Option Nat} {len : Nat} {ad : Nat → Nat} {g : Nat → Int32} (V : aV m cd H) (P : aPath cd len ad g) {h : Nat} (hh : H (ad 0) = some h) : ∀ i, i ≤ len → nOk (nAt cd ad h i) ∧ H (ad i) = some (nHi (nAt cd ad h i)) ∧ nN (nAt cd ad h i) ≤ 32 + i ∧ nGs (nAt cd ad h i) ≤ i ∧ (∀ j, j < nGs (nAt cd ad h i) → nGa (nAt cd ad h i) j < i) := by
  intro i
  induction i with
  | zero =>
    intro _
    have h16 := (V.2.2.2 _ _ hh).2.2.1
    exact ⟨nInit_ok h16, hh, Nat.le_refl _, Nat.le_refl _, fun j hj => absurd hj (Nat.not_lt_zero j)⟩
  | succ i ih =>
    intro hi
    obtain ⟨a1, a2, a3, a4, a5⟩ := ih (by omega)
    obtain ⟨p1, p2, p3, p4⟩ := P i (by omega)
    obtain ⟨v1, v2, v3, v4, v5, v6, v7, v8⟩ := V.2.2.2 _ _ a2
    have G : nGo cd (ad i) (nAt cd ad h i) := ⟨v2, v4, v5, v6⟩
    obtain ⟨b1, b2, b3, b4, b5⟩ := nStep_ok (k := i) a1 G
    rw [nAt_succ]
    refine ⟨b1, ?_, by omega, by have := b5.2.1; omega, fun j hj => ?_⟩
    · rw [b2, p2]
      unfold anx
      by_cases e1 : aop cd (ad i) = 21
      · obtain ⟨x, x1, x2, x3⟩ := v7 (Or.inl e1)
        rw [if_pos e1, x2, n_cl (by have := V.2.1; omega)]
        exact x3
      · rw [if_neg e1]
        by_cases e2 : aop cd (ad i) = 22
        · obtain ⟨x, x1, x2, x3⟩ := v7 (Or.inr (Or.inl e2))
          rw [if_pos e2]
          split
          · exact v8 e1 p1
          · rw [x2, n_cl (by have := V.2.1; omega)]
            exact x3
        · rw [if_neg e2]
          by_cases e3 : aop cd (ad i) = 23
          · obtain ⟨x, x1, x2, x3⟩ := v7 (Or.inr (Or.inr e3))
            rw [if_pos e3]
            split
            · rw [x2, n_cl (by have := V.2.1; omega)]
              exact x3
            · exact v8 e1 p1
          · rw [if_neg e3, if_neg p1]
            exact v8 e1 p1
    · have := b5.2.2 a5 j hj
      omega
theorem nAt_go {m : Nat} {cd : Nat → Int32} {H : Nat → Option Nat} {len : Nat} {ad : Nat → Nat} {g : Nat → Int32} (V : aV m cd H) (P : aPath cd len ad g) {h : Nat} (hh : H (ad 0) = some h) {i : Nat} (hi : i ≤ len) : nGo cd (ad i) (nAt cd ad h i) ∧ ad i < m := by
  obtain ⟨a1, a2, a3, a4, a5⟩ := nAt_ok V P hh i hi
  obtain ⟨v1, v2, v3, v4, v5, v6, v7, v8⟩ := V.2.2.2 _ _ a2
  exact ⟨⟨v2, v4, v5, v6⟩, v1⟩
