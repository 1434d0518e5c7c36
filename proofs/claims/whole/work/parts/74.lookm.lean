/-! the model looks at a step -/
theorem pop_guard (x k j : Nat) (u : nv) : nGuard x k (nPop j u) = nPop j (nGuard x k u) := by
  have e1 : nCon (nPop j u) x = nCon u x := rfl
  have e2 : nGd (nPop j u) x = nGd u x := rfl
  unfold nGuard
  rw [e1, e2]
  split <;> rfl
theorem pop_const (c : Int32) (j : Nat) (u : nv) : nConst c (nPop j u) = ((nConst c u).1, nPop j (nConst c u).2) := by
  have e : nLook (nPop j u) 1 c (-1) 32 = nLook u 1 c (-1) 32 := rfl
  unfold nConst
  rw [e]
  cases nLook u 1 c (-1) 32 <;> rfl
theorem pop_op (o : Nat) (l r : Int32) (f j : Nat) (u : nv) : nOp o l r f (nPop j u) = ((nOp o l r f u).1, nPop j (nOp o l r f u).2) := by
  have e : nLook (nPop j u) o l r f = nLook u o l r f := rfl
  unfold nOp
  rw [e]
  cases nLook u o l r f <;> rfl
theorem pop_pop (u : nv) : nPop 1 (nPop 1 u) = nPop 2 u := by
  unfold nPop
  dsimp only [nHi, nN, nPk, nGs, nNw, nFo, nLoc, nStk, nPl, nDf, nGd, nGa]
  rw [Nat.sub_sub]
section LM
variable {d : Nat} {c : zm} {s : ms} {fr : Nat} {v : nv} {I : Nat → Int32} {A : Nat → Nat → Int32} {cd : Nat → Int32}
theorem nM.repl {u : nv} (M : nM fr I A u) (h1 : 1 ≤ nHi u) {x : Nat} {a : Int32} (ha : a = Int32.ofNat (nF fr x)) : nM fr I (y1 A 1068 (upd (A 1068) (nHi u - 1) a)) (nPush x (nPop 1 u)) := by
  obtain ⟨⟨r1, r2, r3, r4, r5, r6, r7, r8, r9⟩, m2, m3, m4⟩ := M
  refine ⟨⟨r1, ?_, r3, r4, r5, r6, fun i hi => ?_, r8, r9⟩, m2, m3, m4⟩
  · show I 61 = Int32.ofNat (nHi u - 1 + 1)
    rw [r2, show nHi u - 1 + 1 = nHi u from by omega]
  · have hi : i < nHi u - 1 + 1 := hi
    show upd (A 1068) (nHi u - 1) a i = Int32.ofNat (nF fr (nSet (nStk u) (nHi u - 1) x i))
    by_cases e : i = nHi u - 1
    · rw [e, upd_same, nSet_same]; exact ha
    · rw [upd_ne _ _ e, nSet_ne _ _ e]; exact r7 i (by omega)
theorem nConst_hi (k : Int32) (u : nv) : nHi (nConst k u).2 = nHi u := by
  unfold nConst
  split <;> rfl
theorem nOp_hi (o : Nat) (l r : Int32) (f : Nat) (u : nv) : nHi (nOp o l r f u).2 = nHi u := by
  unfold nOp
  split <;> rfl
def nFin2 (o l r : Nat) (u : nv) : Nat × nv := if nCon u l = true ∧ nCon u r = true then nConst (reck o (nNum u l) (nNum u r)) (nFold u) else nOp o (Int32.ofNat l) (Int32.ofNat r) 32 u
def nFin1 (o l : Nat) (u : nv) : Nat × nv := if nCon u l = true then nConst (reck o (nNum u l) 0) (nFold u) else nOp o (Int32.ofNat l) (-1) 32 u
theorem nFin2_pop (o l r : Nat) (u : nv) : nFin2 o l r (nPop 1 u) = ((nFin2 o l r u).1, nPop 1 (nFin2 o l r u).2) := by
  have e1 : nCon (nPop 1 u) l = nCon u l := rfl
  have e2 : nCon (nPop 1 u) r = nCon u r := rfl
  have e3 : nNum (nPop 1 u) l = nNum u l := rfl
  have e4 : nNum (nPop 1 u) r = nNum u r := rfl
  have e5 : nFold (nPop 1 u) = nPop 1 (nFold u) := rfl
  unfold nFin2
  rw [e1, e2, e3, e4, e5]
  by_cases h : nCon u l = true ∧ nCon u r = true
  · rw [if_pos h, if_pos h, pop_const]
  · rw [if_neg h, if_neg h, pop_op]
theorem nFin1_pop (o l : Nat) (u : nv) : nFin1 o l (nPop 1 u) = ((nFin1 o l u).1, nPop 1 (nFin1 o l u).2) := by
  have e1 : nCon (nPop 1 u) l = nCon u l := rfl
  have e3 : nNum (nPop 1 u) l = nNum u l := rfl
  have e5 : nFold (nPop 1 u) = nPop 1 (nFold u) := rfl
  unfold nFin1
  rw [e1, e3, e5]
  by_cases h : nCon u l = true
  · rw [if_pos h, if_pos h, pop_const]
  · rw [if_neg h, if_neg h, pop_op]
theorem nFin2_hi (o l r : Nat) (u : nv) : nHi (nFin2 o l r u).2 = nHi u := by
  unfold nFin2
  split
  · rw [nConst_hi]; rfl
  · exact nOp_hi _ _ _ _ _
theorem nFin1_hi (o l : Nat) (u : nv) : nHi (nFin1 o l u).2 = nHi u := by
  unfold nFin1
  split
  · rw [nConst_hi]; rfl
  · exact nOp_hi _ _ _ _ _
theorem nWork2_eq (o k : Nat) (v : nv) : nWork2 o k v = (fun q : Nat × nv => nPush q.1 (nPop 1 q.2)) (nFin2 o (nStk v (nHi v - 2)) (nStk v (nHi v - 1)) (if o = 7 ∨ o = 8 then nGuard (nStk v (nHi v - 1)) k (nPop 1 v) else nPop 1 v)) := by
  have main : ∀ u, (if nCon u (nStk v (nHi v - 2)) = true ∧ nCon u (nStk v (nHi v - 1)) = true then nPut (nConst (reck o (nNum u (nStk v (nHi v - 2))) (nNum u (nStk v (nHi v - 1)))) (nFold u)) else nPut (nOp o (Int32.ofNat (nStk v (nHi v - 2))) (Int32.ofNat (nStk v (nHi v - 1))) 32 u)) = nPut (nFin2 o (nStk v (nHi v - 2)) (nStk v (nHi v - 1)) u) := by
    intro u
    unfold nFin2
    split <;> rfl
  unfold nWork2
  dsimp only
  rw [main]
  by_cases h : o = 7 ∨ o = 8
  · rw [if_pos h, if_pos h, ← pop_pop, pop_guard, nFin2_pop]
    rfl
  · rw [if_neg h, if_neg h, ← pop_pop, nFin2_pop]
    rfl
theorem nWork1_eq (o : Nat) (v : nv) : nWork1 o v = (fun q : Nat × nv => nPush q.1 (nPop 1 q.2)) (nFin1 o (nStk v (nHi v - 1)) v) := by
  have main : ∀ u, (if nCon u (nStk v (nHi v - 1)) = true then nPut (nConst (reck o (nNum u (nStk v (nHi v - 1))) 0) (nFold u)) else nPut (nOp o (Int32.ofNat (nStk v (nHi v - 1))) (-1) 32 u)) = nPut (nFin1 o (nStk v (nHi v - 1)) u) := by
    intro u
    unfold nFin1
    split <;> rfl
  unfold nWork1
  dsimp only
  rw [main, nFin1_pop]
  rfl
set_option maxHeartbeats 1000000 in
theorem c9_lookAt {F : zm → Prop} (M : nM fr I A v) (W : nW fr v) (hf : fr ≤ 16) (hn : nN v < 80) {kk p : Nat} (hk : kk < 48) (hg : nGs v < 48) (hC : sA s 1032 = cd) (hp : sA s 1059 kk = Int32.ofNat p) (hp200 : p < 200) (G : nGo cd p v) (N : nFine cd p v)
    (k : ∀ I' A', nM fr I' A' (nStep cd kk p v) → nW fr (nStep cd kk p v) → F (yM c s I' A')) : zGo (d + 3) m_X9_findValue 0 [.ref 1031, .int (Int32.ofNat kk), zJ, zJ, zJ] [] (yz (yM c s I A)) (zKv F) := by
  obtain ⟨g1, g2, g3, g4⟩ := G
  have h16 := W.1.2.2.2.1
  have hC' : ∀ I A, yA (yM c s I A) 1032 = cd := fun _ _ => hC
  have r2 : yI (yM c s I A) 1031 61 = Int32.ofNat (nHi v) := M.1.2.1
  refine B_X9_findValue_0 _ ⟨n_in hk (by decide), ?_⟩
  rw [n_cl (by omega), show yA (yM c s I A) 1059 kk = Int32.ofNat p from hp]
  refine c9_op (hC' _ _) hp200 ⟨n_in hk (by decide), ?_⟩
  rw [show yA (yM c s I A) 1059 kk = Int32.ofNat p from hp]
  refine c9_arg (hC' _ _) hp200 ?_
  unfold nFine at N
  unfold nStep at k
  generalize aop cd p = o at *
  generalize aarg cd p = x at *
  rw [n_lit 4, n_lit 15, n_lt (by omega) (by decide), n_lt (by decide) (by omega), show ((Int32.ofNat o = 7) = (o = 7)) from n_eq (by omega) (by decide), show ((Int32.ofNat o = 8) = (o = 8)) from n_eq (by omega) (by decide), r2]
  have s1 : 1 ≤ nHi v → (Int32.ofNat (nHi v) - 1 : Int32) = Int32.ofNat (nHi v - 1) := fun h => n_sub (a := nHi v) (b := 1) h
  have s2 : 2 ≤ nHi v → (Int32.ofNat (nHi v) - 2 : Int32) = Int32.ofNat (nHi v - 2) := fun h => n_sub (a := nHi v) (b := 2) h
  have s3 : (Int32.ofNat (nHi v) + 1 : Int32) = Int32.ofNat (nHi v + 1) := n_add _ 1
  have rst : ∀ i, i < nHi v → yA (yM c s I A) 1068 i = Int32.ofNat (nF fr (nStk v i)) := fun i hi => M.1.2.2.2.2.2.2.1 i hi
  by_cases ha : 4 ≤ o ∧ o ≤ 15
  · rw [if_pos ha, nWork2_eq] at k
    have ht : 2 ≤ nHi v := by
      have : tk o = 2 := by unfold tk; rw [if_neg (by omega), if_pos (Or.inl ha)]
      omega
    have hr : nVd fr v (nStk v (nHi v - 1)) := W.2.2.1 _ (by omega)
    have hl : nVd fr v (nStk v (nHi v - 2)) := W.2.2.1 _ (by omega)
    refine ⟨fun e => absurd e (by omega), fun _ => ⟨fun e => absurd e (by omega), fun _ => ?_⟩⟩
    rw [s1 (by omega), n_cl (by omega), rst _ (by omega), yM_I (by decide)]
    have Mp := M.pop 1
    have Wp := W.pop 1
    have e2A : A 1068 (nHi v - 2) = Int32.ofNat (nF fr (nStk v (nHi v - 2))) := rst _ (by omega)
    have e1A : A 1068 (nHi v - 1) = Int32.ofNat (nF fr (nStk v (nHi v - 1))) := rst _ (by omega)
    have go69 : ∀ (u : nv) (I1 : Nat → Int32) (A1 : Nat → Nat → Int32), nM fr I1 A1 u → nW fr u → nHi u = nHi v - 1 → nN u = nN v → nDf u = nDf v → A1 1068 = A 1068 →
        (∀ I' A', nM fr I' A' ((fun q : Nat × nv => nPush q.1 (nPop 1 q.2)) (nFin2 o (nStk v (nHi v - 2)) (nStk v (nHi v - 1)) u)) → nW fr ((fun q : Nat × nv => nPush q.1 (nPop 1 q.2)) (nFin2 o (nStk v (nHi v - 2)) (nStk v (nHi v - 1)) u)) → F (yM c s I' A')) →
        zGo (d + 3) m_X9_findValue 69 [.ref 1031, .int (Int32.ofNat kk), .int (Int32.ofNat o), .int x, zJ] [] (yz (yM c s I1 A1)) (zKv F) := by
      intro u I1 A1 M1 W1 hu nu du sA1 k
      have cu : ∀ y, nCon u y = nCon v y := fun y => by unfold nCon; rw [du]
      have mu : ∀ y, nNum u y = nNum v y := fun y => by unfold nNum; rw [du]
      have e61 : yI (yM c s I1 A1) 1031 61 = Int32.ofNat (nHi v - 1) := by rw [← hu]; exact M1.1.2.1
      have e1 : (Int32.ofNat (nHi v - 1) - 1 : Int32) = Int32.ofNat (nHi v - 2) := by
        have := n_sub (a := nHi v - 1) (b := 1) (by omega)
        rw [show nHi v - 1 - 1 = nHi v - 2 from by omega] at this
        exact this
      refine B_X9_findValue_69 _ _ _ ?_
      rw [e61, e1, n_cl (by omega), n_cl (by omega), show yA (yM c s I1 A1) 1068 = A 1068 from sA1, e2A, e1A]
      refine ⟨n_in (by omega) (by decide), n_in (by omega) (by decide), ?_⟩
      refine c9_find2 M1 W1 hf (by omega) ha.1 ha.2 (l := nStk v (nHi v - 2)) (r := nStk v (nHi v - 1)) ⟨by rw [nu]; exact hl.1, hl.2⟩ ⟨by rw [nu]; exact hr.1, hr.2⟩ (fun z c1 c2 => by rw [mu]; exact N z (by rw [← cu]; exact c1) (by rw [← cu]; exact c2)) (fun I' A' q hq Mq Wq Vq => ⟨n_in (by omega) (by decide), ?_⟩)
      have hq : q = nFin2 o (nStk v (nHi v - 2)) (nStk v (nHi v - 1)) u := hq
      have hqh : nHi q.2 = nHi v - 1 := by rw [hq, nFin2_hi, hu]
      rw [yM_A (by decide)]
      rw [← hq] at k
      have Mr := Mq.repl (by omega) (x := q.1) rfl
      rw [show nHi q.2 - 1 = nHi v - 2 from by omega] at Mr
      exact k _ _ Mr ((Wq.pop 1).push (x := q.1) Vq (by show nHi q.2 - 1 < 16; omega))
    have hga : (o = 7 ∨ o = 8) → zin (Int32.ofNat (nHi v - 1)) 20 ∧ zGo (d + 2) m_X9_guard 0 [.ref 1031, .int (Int32.ofNat (nF fr (nStk v (nHi v - 1)))), .int (Int32.ofNat kk)] [] (yz (yM c s (y1 I 61 (Int32.ofNat (nHi v - 1))) A)) (zKv fun w8 => zGo (d + 3) m_X9_findValue 69 [.ref 1031, .int (Int32.ofNat kk), .int (Int32.ofNat o), .int x, zJ] [] (yz w8) (zKv F)) := by
      intro z
      rw [if_pos z] at k
      refine ⟨n_in (by omega) (by decide), c9_guard Mp Wp hf (show nN v ≤ 80 by omega) (x := nStk v (nHi v - 1)) hr hg (fun I' A' M' e68 => ?_)⟩
      obtain ⟨g1, g2, g3, g4, g5, g6, g7⟩ := nGuard_hi (nStk v (nHi v - 1)) kk (nPop 1 v)
      exact go69 _ I' A' M' (Wp.guard (x := nStk v (nHi v - 1)) hr kk) g1 g2 g4 e68 k
    refine ⟨fun z => hga (Or.inl z), fun z7 => ⟨fun z => hga (Or.inr z), fun z8 => ?_⟩⟩
    rw [if_neg (show ¬ (o = 7 ∨ o = 8) from fun z => z.elim z7 z8)] at k
    exact go69 _ _ _ Mp Wp rfl rfl rfl rfl k
  · rw [if_neg ha] at k
    have go106 : zGo (d + 3) m_X9_findValue 106 [.ref 1031, .int (Int32.ofNat kk), .int (Int32.ofNat o), .int x, zJ] [] (yz (yM c s I A)) (zKv F) := by
      refine B_X9_findValue_106 _ _ _ ?_
      rw [n_toInt (by omega), r2]
      have fin1 : (o = 16 ∨ o = 17) → 1 ≤ nHi v → (∀ I' A', nM fr I' A' (nWork1 o v) → nW fr (nWork1 o v) → F (yM c s I' A')) → zin (Int32.ofNat (nHi v) - 1) 20 ∧ zGo (d + 2) m_X9_find 0 [.ref 1031, .int (Int32.ofNat o), .int (yA (yM c s I A) 1068 (Int32.toNatClampNeg (Int32.ofNat (nHi v) - 1))), .int (-1), zJ, zJ] [] (yz (yM c s I A)) (zKi fun v10 w9 => zin (Int32.ofNat (nHi v) - 1) 20 ∧ F (yuA w9 1068 (Int32.toNatClampNeg (Int32.ofNat (nHi v) - 1)) v10)) := by
        intro ho h1 k
        rw [s1 h1, n_cl (by omega), rst _ (by omega)]
        refine ⟨n_in (by omega) (by decide), ?_⟩
        refine c9_find1 M W hf hn ho (W.2.2.1 _ (by omega)) (fun I' A' q hq Mq Wq Vq => ⟨n_in (by omega) (by decide), ?_⟩)
        have hq : q = nFin1 o (nStk v (nHi v - 1)) v := hq
        have hqh : nHi q.2 = nHi v := by rw [hq, nFin1_hi]
        rw [yM_A (by decide)]
        rw [nWork1_eq, ← hq] at k
        have Mr := Mq.repl (by omega) (x := q.1) rfl
        rw [show nHi q.2 - 1 = nHi v - 1 from by omega] at Mr
        exact k _ _ Mr ((Wq.pop 1).push (x := q.1) Vq (by show nHi q.2 - 1 < 16; omega))
      obtain e | e | e | e | e | e | e | e | e | e | e | e | e | e | e : o = 0 ∨ o = 1 ∨ o = 2 ∨ o = 3 ∨ o = 16 ∨ o = 17 ∨ o = 18 ∨ o = 19 ∨ o = 20 ∨ o = 21 ∨ o = 22 ∨ o = 23 ∨ o = 24 ∨ o = 25 ∨ o = 26 := by
        clear k g4 N fin1
        omega
      all_goals
        subst e
        simp only [tk, pt] at g2 g3
        simp only [reduceIte, Nat.reduceEqDiff, or_false, false_or, or_true, true_or, Nat.reduceLeDiff, and_false, false_and, and_true, true_and, Nat.sub_zero] at g2 g3
        and_intros
        all_goals
          intro e
          first
            | (exfalso; revert e; decide)
            | skip
      · exact k _ _ M W
      · rw [s3, yM_I (by decide), n_cl (by omega)]
        refine c9_constX M (fun b hb => y1_ne _ _ hb) W hf hn x (fun I' A' I'' Mq Wq Vq e1 e2 e3 e4 => ⟨n_in (by omega) (by decide), ?_⟩)
        rw [yM_A (by decide)]
        have Mp := Mq.push (x := (nConst x v).1) rfl
        rw [nConst_hi] at Mp
        have hI : I'' = y1 I' 61 (Int32.ofNat (nHi v + 1)) := by
          funext b
          by_cases e : b = 61
          · rw [e, y1_same, e2, y1_same]
          · rw [y1_ne _ _ e]; exact e1 b e
        rw [hI]
        exact k _ _ Mp (Wq.push Vq (by rw [nConst_hi]; omega))
      · obtain ⟨x', hx1, hx2⟩ := g4 (Or.inl rfl)
        subst hx2
        rw [s3, yM_I (by decide), n_cl (by omega), n_cl (by omega), yM_A (by decide)]
        rw [n_cl (by omega)] at k
        exact ⟨n_in hx1 (by decide), n_in (by omega) (by decide), k _ _ (M.push (M.1.2.2.2.2.2.1 _ hx1)) (W.push (W.2.1 _ hx1) (by omega))⟩
      · obtain ⟨x', hx1, hx2⟩ := g4 (Or.inr rfl)
        subst hx2
        rw [s1 (by omega), yM_I (by decide), n_cl (by omega), n_cl (by omega), yM_A (by decide), rst _ (by omega)]
        rw [n_cl (by omega)] at k
        exact ⟨n_in (by omega) (by decide), n_in hx1 (by decide), k _ _ ((M.pop 1).store _ rfl) ((W.pop 1).store (W.2.2.1 _ (by omega)))⟩
      · exact fin1 (Or.inl rfl) (by omega) k
      · exact fin1 (Or.inr rfl) (by omega) k
      · rw [s1 (by omega), s3, n_cl (by omega), n_cl (by omega), rst _ (by omega), yM_A (by decide), yM_I (by decide)]
        exact ⟨n_in (by omega) (by decide), n_in (by omega) (by decide), k _ _ (M.push rfl) (W.push (W.2.2.1 _ (by omega)) (by omega))⟩
      · rw [s1 (by omega), s2 (by omega), n_cl (by omega), n_cl (by omega), rst _ (by omega), rst _ (by omega), yM_A (by decide), yM_A (by decide)]
        refine ⟨n_in (by omega) (by decide), n_in (by omega) (by decide), n_in (by omega) (by decide), n_in (by omega) (by decide), k _ _ ?_ ?_⟩
        · obtain ⟨⟨r1, r2, r3, r4, r5, r6, r7, r8, r9⟩, m2, m3, m4⟩ := M
          refine ⟨⟨r1, ?_, r3, r4, r5, r6, fun i hi => ?_, r8, r9⟩, m2, m3, m4⟩
          · show I 61 = Int32.ofNat (nHi v - 2 + 1 + 1)
            rw [r2, show nHi v - 2 + 1 + 1 = nHi v from by omega]
          · have hi : i < nHi v - 2 + 1 + 1 := hi
            show upd (upd (A 1068) (nHi v - 1) (Int32.ofNat (nF fr (nStk v (nHi v - 2))))) (nHi v - 2) (Int32.ofNat (nF fr (nStk v (nHi v - 1)))) i = Int32.ofNat (nF fr (nSet (nSet (nStk v) (nHi v - 2) (nStk v (nHi v - 1))) (nHi v - 2 + 1) (nStk v (nHi v - 2)) i))
            rw [show nHi v - 2 + 1 = nHi v - 1 from by omega]
            by_cases e1 : i = nHi v - 2
            · rw [e1, upd_same, nSet_ne _ _ (by omega), nSet_same]
            · rw [upd_ne _ _ e1]
              by_cases e2 : i = nHi v - 1
              · rw [e2, upd_same, nSet_same]
              · rw [upd_ne _ _ e2, nSet_ne _ _ e2, nSet_ne _ _ e1]
                exact r7 i (by omega)
        · exact ((W.pop 2).push (W.2.2.1 (nHi v - 1) (by omega)) (by show nHi v - 2 < 16; omega)).push (W.2.2.1 (nHi v - 2) (by omega)) (by show nHi v - 2 + 1 < 16; omega)
      · rw [s1 (by omega), yM_I (by decide)]
        exact k _ _ (M.pop 1) (W.pop 1)
      · exact k _ _ M W
      · rw [s1 (by omega), yM_I (by decide), n_cl (by omega), rst _ (by omega)]
        exact ⟨n_in (by omega) (by decide), c9_guard (M.pop 1) (W.pop 1) hf (show nN v ≤ 80 by omega) (x := nStk v (nHi v - 1)) (W.2.2.1 _ (by omega)) hg (fun I' A' M' _ => k _ _ M' ((W.pop 1).guard (x := nStk v (nHi v - 1)) (W.2.2.1 _ (by omega)) kk))⟩
      · rw [s1 (by omega), yM_I (by decide), n_cl (by omega), rst _ (by omega)]
        exact ⟨n_in (by omega) (by decide), c9_guard (M.pop 1) (W.pop 1) hf (show nN v ≤ 80 by omega) (x := nStk v (nHi v - 1)) (W.2.2.1 _ (by omega)) hg (fun I' A' M' _ => k _ _ M' ((W.pop 1).guard (x := nStk v (nHi v - 1)) (W.2.2.1 _ (by omega)) kk))⟩
      · rw [s1 (by omega), yM_I (by decide)]
        exact k _ _ (M.pop 1) (W.pop 1)
      · rw [s1 (by omega), n_cl (by omega), rst _ (by omega)]
        have hp : nVd fr v (nStk v (nHi v - 1)) := W.2.2.1 _ (by omega)
        have hz : zin (Int32.ofNat (nHi v - 1)) 20 := n_in (by omega) (by decide)
        refine ⟨hz, c9_peek M W hf hn (p := nStk v (nHi v - 1)) hp (fun hc i hi => ⟨hz, ?_⟩) (fun hc hi I' A' M' W' => ⟨hz, ?_⟩) (fun hc I' A' M' W' V' => ⟨hz, ?_⟩)⟩
        · rw [yM_A (by decide)]
          have e : nPeek v = nPush i (nPop 1 v) := by
            unfold nPeek
            dsimp only
            rw [if_pos (show nCon (nPop 1 v) (nStk v (nHi v - 1)) = true from hc), show nPl (nPop 1 v) (apl (nNum (nPop 1 v) (nStk v (nHi v - 1)))) = some i from hi]
          have k : ∀ I' A', nM fr I' A' (nPeek v) → nW fr (nPeek v) → F (yM c s I' A') := k
          rw [e] at k
          exact k _ _ (M.repl (by omega) (x := i) rfl) ((W.pop 1).push (x := i) (W.2.2.2.1 _ _ hi) (by show nHi v - 1 < 16; omega))
        · rw [yM_A (by decide)]
          have e : nPeek v = nPush (nN v) (nPop 1 (nPlace (apl (nNum v (nStk v (nHi v - 1)))) (nN v) (nCount (nMake 25 (Int32.ofNat (nStk v (nHi v - 1))) (-1) v)))) := by
            unfold nPeek
            dsimp only
            rw [if_pos (show nCon (nPop 1 v) (nStk v (nHi v - 1)) = true from hc), show nPl (nPop 1 v) (apl (nNum (nPop 1 v) (nStk v (nHi v - 1)))) = none from hi]
            rfl
          have k : ∀ I' A', nM fr I' A' (nPeek v) → nW fr (nPeek v) → F (yM c s I' A') := k
          rw [e] at k
          have hv' : nVd fr (nCount (nMake 25 (Int32.ofNat (nStk v (nHi v - 1))) (-1) v)) (nN v) := ⟨Nat.lt_succ_self _, Or.inr W.1.1⟩
          exact k _ _ (M'.repl (show 1 ≤ nHi v by omega) (x := nN v) rfl) (((W'.count.place (i := apl (nNum v (nStk v (nHi v - 1)))) hv').pop 1).push (x := nN v) hv' (by show nHi v - 1 < 16; omega))
        · rw [yM_A (by decide)]
          have e : nPeek v = nPush (nOp 25 (Int32.ofNat (nStk v (nHi v - 1))) (-1) (nPk v) v).1 (nPop 1 (nOp 25 (Int32.ofNat (nStk v (nHi v - 1))) (-1) (nPk v) v).2) := by
            unfold nPeek
            dsimp only
            rw [if_neg (show ¬ nCon (nPop 1 v) (nStk v (nHi v - 1)) = true from hc), show nPk (nPop 1 v) = nPk v from rfl, pop_op]
            rfl
          have k : ∀ I' A', nM fr I' A' (nPeek v) → nW fr (nPeek v) → F (yM c s I' A') := k
          rw [e] at k
          have hh := nOp_hi 25 (Int32.ofNat (nStk v (nHi v - 1))) (-1) (nPk v) v
          have Mr := M'.repl (by rw [hh]; omega) (x := (nOp 25 (Int32.ofNat (nStk v (nHi v - 1))) (-1) (nPk v) v).1) rfl
          rw [hh] at Mr
          exact k _ _ Mr ((W'.pop 1).push V' (by show nHi (nOp 25 (Int32.ofNat (nStk v (nHi v - 1))) (-1) (nPk v) v).2 - 1 < 16; rw [hh]; omega))
      · have s4 : (Int32.ofNat (nHi v - 2) + 1 : Int32) = Int32.ofNat (nHi v - 1) := by
          rw [show (Int32.ofNat (nHi v - 2) + 1 : Int32) = Int32.ofNat (nHi v - 2 + 1) from n_add _ 1, show nHi v - 2 + 1 = nHi v - 1 from by omega]
        rw [s2 (by omega), s4, yM_I (by decide), n_cl (by omega), n_cl (by omega), rst _ (by omega), rst _ (by omega)]
        have hp : nVd fr v (nStk v (nHi v - 2)) := W.2.2.1 _ (by omega)
        have hx : nVd fr v (nStk v (nHi v - 1)) := W.2.2.1 _ (by omega)
        refine ⟨n_in (by omega) (by decide), n_in (by omega) (by decide), c9_poked (M.pop 2) (show nN v ≤ 80 by omega) (p := nStk v (nHi v - 2)) (x := nStk v (nHi v - 1)) hp (fun I' A' M' => ?_)⟩
        refine k _ _ M' ?_
        show nW fr (if nCon (nMark (nPop 2 v)) (nStk v (nHi v - 2)) = true then nPlace (apl (nNum (nMark (nPop 2 v)) (nStk v (nHi v - 2)))) (nStk v (nHi v - 1)) (nMark (nPop 2 v)) else nClear (nMark (nPop 2 v)))
        split
        · exact (W.pop 2).mark.place hx
        · exact (W.pop 2).mark.clear
    exact ⟨fun _ => go106, fun e1 => ⟨fun _ => go106, fun e2 => absurd ⟨by omega, by omega⟩ ha⟩⟩
end LM
