/-! the class looks at the steps of a path -/
/-- a step that can be looked at -/
def nGo (cd : Nat → Int32) (p : Nat) (v : nv) : Prop := aop cd p ≤ 26 ∧ tk (aop cd p) ≤ nHi v ∧ nHi v - tk (aop cd p) + pt (aop cd p) ≤ 16 ∧ (aop cd p = 2 ∨ aop cd p = 3 → ∃ x, x < 16 ∧ aarg cd p = Int32.ofNat x)
theorem nStep_arith {cd : Nat → Int32} {k p : Nat} {v : nv} (h : 4 ≤ aop cd p ∧ aop cd p ≤ 15) : nStep cd k p v = nWork2 (aop cd p) k v := by
  unfold nStep
  rw [if_pos h]
section LOOK
variable {d : Nat} {w : zm} {adr g0 : Nat → Int32} {I A : Nat → Nat → Int32} {v : nv} {m : Nat} {cd : Nat → Int32}
theorem nGuard_con (x k : Nat) (v : nv) (y : Nat) : nCon (nGuard x k v) y = nCon v y ∧ nNum (nGuard x k v) y = nNum v y := by
  have h := (nGuard_hi x k v).2.2.2.1
  unfold nCon nNum
  rw [h]
  exact ⟨rfl, rfl⟩
theorem c7_findOrMake {F : zm → Prop} (R : nC adr g0 I A v) (O : nOk v) (hn : nN v < 80) (hh : nHi v < 16) {o : Nat} (ho : o ≤ 26) (l r : Int32) (a3 a4 a5 : Int32) (e5 : a5 = l) (e4 : a4 = r) (k : ∀ I' A', nC adr g0 I' A' (nPut (nOp o l r 32 v)) → F (yV w I' A')) :
    zGo (d + 3) m_X7_work 110 [.ref 1013, .int (Int32.ofNat o), .ref 1026, .int a3, .int a4, .int a5, zJ] [] (yz (yV w I A)) (zKv F) := by
  subst e5 e4
  refine B_X7_work_110 _ _ _ _ (c7_look (fr := 32) R (by omega) ho _ _ (Nat.le_refl _) O.1 ?_)
  unfold nOp nPut at k
  cases hl : nLook v o a5 a4 32 with
  | some i =>
    rw [hl] at k
    have hi := (nLook_lt hl).2.1
    refine ⟨fun e => absurd e (by show ¬ Int32.ofNat i = -1; rw [n_m1 (by omega)]; exact id), fun _ => ?_⟩
    exact c3v_push R i hh k
  | none =>
    rw [hl] at k
    refine ⟨fun _ => ?_, fun e => absurd rfl e⟩
    exact c7_makeNew R O.1 hn ho _ _ (fun I' A' R' => c3v_push R' _ hh k)
set_option maxHeartbeats 1000000 in
theorem c7_work {F : zm → Prop} (R : nC adr g0 I A v) (O : nOk v) (hn : nN v < 80) {o kk : Nat} (h4 : 4 ≤ o) (h17 : o ≤ 17) (ht : tk o ≤ nHi v) (hk : kk < 48) (hg : nGs v < 48) (hd : ∀ j, j < nGs v → nGa v j ≠ kk) (hadr : yA w 1027 = adr)
    (hf : (o = 7 ∨ o = 8) → nCon v (nStk v (nHi v - 1)) = true → nCon v (nStk v (nHi v - 2)) = true → ¬ nNum v (nStk v (nHi v - 1)) = 0)
    (k : ∀ I' A', nC adr g0 I' A' (if o ≤ 15 then nWork2 o kk v else nWork1 o v) → F (yV w I' A')) : zGo (d + 3) m_X7_work 0 [.ref 1013, .int (Int32.ofNat o), .ref 1026, .int (Int32.ofNat kk), zJ, zJ, zJ] [] (yz (yV w I A)) (zKv F) := by
  have h16 := O.2.2.2.1
  refine B_X7_work_0 _ _ ?_
  rw [n_lit 15, n_lt (by decide) (by omega)]
  by_cases h15 : o ≤ 15
  · rw [if_pos h15] at k
    have ht2 : 2 ≤ nHi v := by
      have : tk o = 2 := by unfold tk; rw [if_neg (by omega), if_pos (Or.inl ⟨h4, h15⟩)]
      omega
    refine ⟨fun e => absurd e (by omega), fun _ => c3v_pop R (by omega) h16 (fun I1 R1 => ?_)⟩
    refine B_X7_work_17 _ _ _ (c3v_pop R1 (by show 0 < nHi v - 1; omega) (by show nHi v - 1 ≤ 16; omega) (fun I2 R2 => ?_))
    have e2 : nStk (nPop 1 v) (nHi (nPop 1 v) - 1) = nStk v (nHi v - 2) := by show nStk v (nHi v - 1 - 1) = _; rw [show nHi v - 1 - 1 = nHi v - 2 from by omega]
    have e3 : nPop 1 (nPop 1 v) = nPop 2 v := by
      unfold nPop
      dsimp only [nHi, nN, nPk, nGs, nNw, nFo, nLoc, nStk, nPl, nDf, nGd, nGa]
      rw [Nat.sub_sub]
    rw [e3] at R2
    rw [e2]
    have hr : nStk v (nHi v - 1) < nN v := O.2.2.2.2.2.1 _ (by omega)
    have hl : nStk v (nHi v - 2) < nN v := O.2.2.2.2.2.1 _ (by omega)
    generalize hrr : nStk v (nHi v - 1) = r at *
    generalize hll : nStk v (nHi v - 2) = l at *
    have O2 : nOk (nPop 2 v) := O.pop 2
    unfold nWork2 at k
    rw [hrr, hll] at k
    dsimp only at k
    -- behind the guard
    have go48 : ∀ (u : nv) (I3 A3 : Nat → Nat → Int32), nC adr g0 I3 A3 u → nOk u → nN u = nN v → nHi u = nHi v - 2 → nDf u = nDf v →
        (∀ I' A', nC adr g0 I' A' (if nCon u l = true ∧ nCon u r = true then nPut (nConst (reck o (nNum u l) (nNum u r)) (nFold u)) else nPut (nOp o (Int32.ofNat l) (Int32.ofNat r) 32 u)) → F (yV w I' A')) →
        zGo (d + 3) m_X7_work 48 [.ref 1013, .int (Int32.ofNat o), .ref 1026, .int (Int32.ofNat kk), .int (Int32.ofNat r), .int (Int32.ofNat l), zJ] [] (yz (yV w I3 A3)) (zKv F) := by
      intro u I3 A3 R3 O3 n3 h3 d3 k
      have c3 : ∀ y, nCon u y = nCon v y := fun y => by unfold nCon; rw [d3]
      have m3 : ∀ y, nNum u y = nNum v y := fun y => by unfold nNum; rw [d3]
      have go110 : ¬ (nCon u l = true ∧ nCon u r = true) → zGo (d + 3) m_X7_work 110 [.ref 1013, .int (Int32.ofNat o), .ref 1026, .int (Int32.ofNat kk), .int (Int32.ofNat r), .int (Int32.ofNat l), zJ] [] (yz (yV w I3 A3)) (zKv F) := by
        intro hno
        rw [if_neg hno] at k
        exact c7_findOrMake R3 O3 (by omega) (by omega) (by omega) _ _ _ _ _ rfl rfl k
      refine B_X7_work_48 _ _ _ _ (c7_isC R3 (by omega) (by omega) ?_)
      by_cases hcl : nCon u l = true
      · rw [if_pos hcl]
        refine ⟨fun e => absurd e (by decide), fun _ => ⟨fun e => absurd e (by rw [n_m1 (by omega)]; exact id), fun _ => c7_isC R3 (by omega) (by omega) ?_⟩⟩
        by_cases hcr : nCon u r = true
        · rw [if_pos hcr]
          refine ⟨fun e => absurd e (by decide), fun _ => ?_⟩
          rw [if_pos ⟨hcl, hcr⟩] at k
          refine B_X7_work_72 _ _ _ _ ?_
          have r6 : yI (yV w I3 A3) 1026 8 = Int32.ofNat (nFo u) := R3.2.2.2.2.2.1
          rw [r6, show (Int32.ofNat (nFo u) + 1 : Int32) = Int32.ofNat (nFo u + 1) from n_add _ 1]
          unfold yV
          rw [yov_I (by decide)]
          have Rf := R3.fold
          refine c7_num Rf (x := l) (show l < nN u by omega) (show nN u ≤ 80 by omega) hcl (c7_num Rf (x := r) (show r < nN u by omega) (show nN u ≤ 80 by omega) hcr ?_)
          have hz : o = 7 ∨ o = 8 → ¬ nNum (nFold u) r = 0 := by
            intro z
            show ¬ nNum u r = 0
            rw [m3 r]
            exact hf z (by rw [← c3 r]; exact hcr) (by rw [← c3 l]; exact hcl)
          refine c8_result _ _ h4 h17 hz ?_
          refine c7_const Rf (show 32 ≤ nN u from O3.1) (show nN u < 80 by omega) _ (fun I' A' R' => ?_)
          have hk2 := nConst_ok (v := nFold u) O3.fold (reck o (nNum u l) (nNum u r))
          refine c3v_push R' _ (by show nHi (nConst (reck o (nNum u l) (nNum u r)) (nFold u)).2 < 16; rw [hk2.2.2.1]; show nHi u < 16; omega) k
        · rw [if_neg hcr]
          exact ⟨fun _ => go110 (fun z => hcr z.2), fun e => absurd rfl e⟩
      · rw [if_neg hcl]
        exact ⟨fun _ => go110 (fun z => hcl z.1), fun e => absurd rfl e⟩
    have hga : (o = 7 ∨ o = 8) → zGo (d + 2) m_X7_guardOn 0 [.ref 1013, .int (Int32.ofNat r), .ref 1026, .int (Int32.ofNat kk)] [] (yz (yV w I2 A)) (zKv fun w3 => zGo (d + 3) m_X7_work 48 [.ref 1013, .int (Int32.ofNat o), .ref 1026, .int (Int32.ofNat kk), .int (Int32.ofNat r), .int (Int32.ofNat l), zJ] [] (yz w3) (zKv F)) := by
      intro z
      rw [if_pos z] at k
      refine c7_guardOn R2 (x := r) hr (show nN v ≤ 80 by omega) hk hg hd hadr (fun I' A' R' => ?_)
      obtain ⟨g1, g2, g3, g4, g5, g6, g7⟩ := nGuard_hi r kk (nPop 2 v)
      exact go48 _ I' A' R' (O2.guard r kk) g2 g1 g4 k
    rw [show ((Int32.ofNat o = 7) = (o = 7)) from n_eq (by omega) (by decide), show ((Int32.ofNat o = 8) = (o = 8)) from n_eq (by omega) (by decide)]
    refine ⟨fun z => hga (Or.inl z), fun z7 => ⟨fun z => hga (Or.inr z), fun z8 => ?_⟩⟩
    rw [if_neg (show ¬ (o = 7 ∨ o = 8) from fun z => z.elim z7 z8)] at k
    exact go48 _ I2 A R2 O2 rfl rfl rfl k
  · rw [if_neg h15] at k
    have ht1 : 1 ≤ nHi v := by
      have : tk o = 1 := by unfold tk; rw [if_neg (by omega), if_neg (by omega)]
      omega
    refine ⟨fun _ => ?_, fun e => absurd (by omega) e⟩
    refine B_X7_work_17 _ _ _ (c3v_pop R (by omega) h16 (fun I2 R2 => ?_))
    have hl : nStk v (nHi v - 1) < nN v := O.2.2.2.2.2.1 _ (by omega)
    unfold nWork1 at k
    generalize hll : nStk v (nHi v - 1) = l at *
    dsimp only at k
    have O2 : nOk (nPop 1 v) := O.pop 1
    rw [show ((Int32.ofNat o = 7) = (o = 7)) from n_eq (by omega) (by decide), show ((Int32.ofNat o = 8) = (o = 8)) from n_eq (by omega) (by decide)]
    refine ⟨fun z => absurd z (by omega), fun _ => ⟨fun z => absurd z (by omega), fun _ => ?_⟩⟩
    refine B_X7_work_48 _ _ _ _ (c7_isC R2 (x := l) hl (show nN v ≤ 80 by omega) ?_)
    by_cases hcl : nCon (nPop 1 v) l = true
    · rw [if_pos hcl]
      rw [if_pos hcl] at k
      refine ⟨fun e => absurd e (by decide), fun _ => ⟨fun _ => ?_, fun e => absurd rfl e⟩⟩
      refine B_X7_work_72 _ _ _ _ ?_
      have r6 : yI (yV w I2 A) 1026 8 = Int32.ofNat (nFo v) := R2.2.2.2.2.2.1
      rw [r6, show (Int32.ofNat (nFo v) + 1 : Int32) = Int32.ofNat (nFo v + 1) from n_add _ 1]
      unfold yV
      rw [yov_I (by decide)]
      have Rf := R2.fold
      refine c7_num Rf (x := l) hl (show nN v ≤ 80 by omega) hcl (c7_numm ?_)
      refine c8_result _ _ h4 h17 (fun z => by omega) ?_
      refine c7_const Rf (show 32 ≤ nN v from O.1) (show nN v < 80 from hn) _ (fun I' A' R' => ?_)
      have hk2 := nConst_ok (v := nFold (nPop 1 v)) O2.fold (reck o (nNum (nPop 1 v) l) 0)
      refine c3v_push R' _ (by show nHi (nConst (reck o (nNum (nPop 1 v) l) 0) (nFold (nPop 1 v))).2 < 16; rw [hk2.2.2.1]; show nHi v - 1 < 16; omega) k
    · rw [if_neg hcl]
      rw [if_neg hcl] at k
      refine ⟨fun _ => ?_, fun e => absurd rfl e⟩
      exact c7_findOrMake R2 O2 (show nN v < 80 from hn) (show nHi v - 1 < 16 by omega) (by omega) _ _ _ _ _ rfl rfl k
theorem c7_store {F : zm → Prop} (R : nC adr g0 I A v) {j : Nat} (hj : j < 16) (x : Nat) (k : ∀ A', nC adr g0 I A' (nStore j x v) → F (yV w I A')) : zGo d m_X7_store 0 [.ref 1013, .int (Int32.ofNat j), .int (Int32.ofNat x)] [] (yz (yV w I A)) (zKv F) := by
  refine B_X7_store_0 _ _ ?_
  rw [n_neg (by omega), n_lit 16, n_lt (by omega) (by decide), n_cl (by omega)]
  refine ⟨fun e => e.elim, fun _ => ⟨fun _ => ⟨n_in hj (by decide), ?_⟩, fun e => absurd hj e⟩⟩
  unfold yV
  rw [yov_A (by decide)]
  exact k _ (R.store j x)
theorem c7_peeked {F : Int32 → zm → Prop} (R : nC adr g0 I A v) (O : nOk v) (hn : nN v < 80) {p : Nat} (hp : p < nN v)
    (k1 : nCon v p = true → ∀ i, nPl v (apl (nNum v p)) = some i → F (Int32.ofNat i) (yV w I A))
    (k2 : nCon v p = true → nPl v (apl (nNum v p)) = none → ∀ I' A', nC adr g0 I' A' (nPlace (apl (nNum v p)) (nN v) (nCount (nMake 25 (Int32.ofNat p) (-1) v))) → F (Int32.ofNat (nN v)) (yV w I' A'))
    (k3 : ¬ nCon v p = true → ∀ I' A', nC adr g0 I' A' (nOp 25 (Int32.ofNat p) (-1) (nPk v) v).2 → F (Int32.ofNat (nOp 25 (Int32.ofNat p) (-1) (nPk v) v).1) (yV w I' A')) :
    zGo (d + 3) m_X7_peeked 0 [.ref 1013, .int (Int32.ofNat p), .ref 1026, zJ] [] (yz (yV w I A)) (zKi F) := by
  refine B_X7_peeked_0 _ (c7_isC R hp (by omega) ?_)
  by_cases hc : nCon v p = true
  · rw [if_pos hc]
    refine ⟨fun e => absurd e (by decide), fun _ => c7_num R hp (by omega) hc ⟨apl_in _, ?_⟩⟩
    have r9 := R.2.2.2.2.2.2.2.2.1 (apl (nNum v p)) (by have := (apl_eq (nNum v p)).2; omega)
    have ea : Int32.toNatClampNeg (nNum v p &&& 31) = apl (nNum v p) := rfl
    rw [ea, show yA (yV w I A) 1017 = A 1017 from rfl, r9]
    cases hq : nPl v (apl (nNum v p)) with
    | some i =>
      have hi := O.2.2.2.2.2.2 _ _ hq
      refine ⟨fun e => absurd e (by show ¬ Int32.ofNat i = -1; rw [n_m1 (by omega)]; exact id), fun _ => ⟨apl_in _, k1 hc i hq⟩⟩
    | none =>
      refine ⟨fun _ => ?_, fun e => absurd rfl e⟩
      refine c7_makeNew (o := 25) R O.1 hn (by decide) _ _ (fun I' A' R' => ⟨apl_in _, apl_in _, ?_⟩)
      unfold yV
      rw [yov_A (by decide)]
      have e1 : yA (yov mVI mVA w I' (y1 A' 1017 (upd (A' 1017) (apl (nNum v p)) (Int32.ofNat (nN v))))) 1017 (apl (nNum v p)) = Int32.ofNat (nN v) := upd_same _ _ _
      rw [e1]
      exact k2 hc hq _ _ (R'.place _ _)
  · rw [if_neg hc]
    refine ⟨fun _ => ?_, fun e => absurd rfl e⟩
    have r2 : yI (yV w I A) 1013 9 = Int32.ofNat (nPk v) := R.2.1
    rw [r2]
    refine c7_look (o := 25) R (by omega) (by decide) _ _ O.2.1 O.2.2.1 ?_
    have k3 := k3 hc
    unfold nOp at k3
    cases hl : nLook v 25 (Int32.ofNat p) (-1) (nPk v) with
    | some i =>
      rw [hl] at k3
      have hi := (nLook_lt hl).2.1
      refine ⟨fun e => absurd e (by show ¬ Int32.ofNat i = -1; rw [n_m1 (by omega)]; exact id), fun _ => k3 _ _ R⟩
    | none =>
      rw [hl] at k3
      refine ⟨fun _ => ?_, fun e => absurd rfl e⟩
      exact c7_makeNew (o := 25) R O.1 hn (by decide) _ _ k3
theorem c7_notePoke {F : zm → Prop} (R : nC adr g0 I A v) (hn : nN v ≤ 80) {p : Nat} (hp : p < nN v) (x : Nat) (k : ∀ I' A', nC adr g0 I' A' (if nCon v p = true then nPlace (apl (nNum v p)) x (nMark v) else nClear (nMark v)) → F (yV w I' A')) :
    zGo (d + 2) m_X7_notePoke 0 [.ref 1013, .int (Int32.ofNat p), .int (Int32.ofNat x)] [] (yz (yV w I A)) (zKv F) := by
  refine B_X7_notePoke_0 _ _ ?_
  have r1 : yI (yV w I A) 1013 8 = Int32.ofNat (nN v) := R.1
  rw [r1]
  unfold yV
  rw [yov_I (by decide)]
  have Rm := R.mark
  refine c7_isC Rm (x := p) hp hn ?_
  have ec : nCon (nMark v) p = nCon v p := rfl
  rw [ec]
  by_cases hc : nCon v p = true
  · rw [if_pos hc]
    rw [if_pos hc] at k
    refine ⟨fun e => absurd e (by decide), fun _ => c7_num Rm (x := p) hp hn hc ⟨apl_in _, ?_⟩⟩
    unfold yV
    rw [yov_A (by decide)]
    exact k _ _ (Rm.place _ _)
  · rw [if_neg hc]
    rw [if_neg hc] at k
    refine ⟨fun _ => c7_fill (n := 32) _ rfl rfl (by omega) ?_, fun e => absurd rfl e⟩
    unfold yV
    rw [yov_R (by decide)]
    exact k _ _ Rm.clear
set_option maxHeartbeats 1000000 in
theorem c7_lookAt {F : zm → Prop} (R : nC adr g0 I A v) (O : nOk v) (C : yCd w m cd) (hn : nN v < 80) {kk p : Nat} (hk : kk < 48) (hg : nGs v < 48) (hd : ∀ j, j < nGs v → nGa v j ≠ kk) (hadr : yA w 1027 = adr) (hp : adr kk = Int32.ofNat p) (hpm : p < m) (G : nGo cd p v) (N : nFine cd p v)
    (k : ∀ I' A', nC adr g0 I' A' (nStep cd kk p v) → F (yV w I' A')) : zGo (d + 4) m_X7_lookAt 0 [.ref 1013, .ref 1026, .int (Int32.ofNat kk), zJ, zJ, zJ] [] (yz (yV w I A)) (zKv F) := by
  obtain ⟨g1, g2, g3, g4⟩ := G
  have h16 := O.2.2.2.1
  have hm := C.1
  have C' : yCd (yV w I A) m cd := C
  have ha : yA (yV w I A) 1027 = adr := hadr
  refine B_X7_lookAt_0 _ ⟨n_in hk (by decide), ?_⟩
  rw [n_cl (by omega), ha, hp]
  refine c0_op C' hpm ⟨n_in hk (by decide), ?_⟩
  rw [ha, hp]
  refine c0_arg C' hpm ?_
  have hle := (aop_eq cd p).2
  rw [(aop_eq cd p).1, n_toInt (by omega), show cd p >>> 6 = aarg cd p from rfl]
  unfold nFine at N
  unfold nStep at k
  generalize aop cd p = o at *
  generalize aarg cd p = x at *
  by_cases h4 : 4 ≤ o ∧ o ≤ 17
  · have dflt : (Int32.ofNat o < 4 → F (yV w I A)) ∧ (¬ Int32.ofNat o < 4 → ((17 < Int32.ofNat o → F (yV w I A)) ∧ (¬ 17 < Int32.ofNat o → zGo (d + 3) m_X7_work 0 [.ref 1013, .int (Int32.ofNat o), .ref 1026, .int (Int32.ofNat kk), zJ, zJ, zJ] [] (yz (yV w I A)) (zKv fun w7 => F w7)))) := by
      rw [n_lit 4, n_lit 17, n_lt (by omega) (by decide), n_lt (by decide) (by omega)]
      refine ⟨fun e => absurd e (by omega), fun _ => ⟨fun e => absurd e (by omega), fun _ => ?_⟩⟩
      refine c7_work R O hn h4.1 h4.2 g2 hk hg hd hadr N ?_
      by_cases h15 : o ≤ 15
      · rw [if_pos h15]
        rw [if_pos ⟨h4.1, h15⟩] at k
        exact k
      · rw [if_neg h15]
        rw [if_neg (by omega)] at k
        obtain e | e : o = 16 ∨ o = 17 := by omega
        · subst e
          exact k
        · subst e
          exact k
    and_intros
    · intro _
      exact dflt
    all_goals
      intro e
      exfalso
      omega
  · rw [if_neg (by omega)] at k
    obtain e | e | e | e | e | e | e | e | e | e | e | e | e : o = 0 ∨ o = 1 ∨ o = 2 ∨ o = 3 ∨ o = 18 ∨ o = 19 ∨ o = 20 ∨ o = 21 ∨ o = 22 ∨ o = 23 ∨ o = 24 ∨ o = 25 ∨ o = 26 := by
      clear k g4 N
      omega
    all_goals
      subst e
      simp only [tk, pt] at g2 g3
      and_intros
      all_goals
        intro c
        first
          | (exfalso; revert c; decide)
          | skip
    · exact ⟨fun _ => k _ _ R, fun e => absurd (by decide) e⟩
    · have g3 : nHi v ≤ 15 := by simpa using g3
      refine c7_const R O.1 hn _ (fun I' A' R' => ?_)
      have hk2 := nConst_ok O x
      exact c3v_push R' _ (by rw [hk2.2.2.1]; omega) k
    · have g3 : nHi v ≤ 15 := by simpa using g3
      obtain ⟨j, hj, rfl⟩ := g4 (Or.inl rfl)
      rw [n_cl (by omega)] at k
      rw [n_neg (by omega), n_lit 16, n_lt (by omega) (by decide), n_cl (by omega)]
      refine ⟨fun e => e.elim, fun _ => ⟨fun _ => ⟨n_in hj (by decide), ?_⟩, fun e => absurd hj e⟩⟩
      rw [show yA (yV w I A) 1014 = A 1014 from rfl, R.2.2.2.2.2.2.1 j hj]
      exact c3v_push R _ (by omega) k
    · have g2 : 1 ≤ nHi v := by simpa using g2
      obtain ⟨j, hj, rfl⟩ := g4 (Or.inr rfl)
      rw [n_cl (by omega)] at k
      exact c3v_pop R (by omega) h16 (fun I1 R1 => c7_store R1 hj _ (fun A' R' => k _ _ R'))
    · have g2 : 1 ≤ nHi v := by simpa using g2
      have g3 : nHi v - 1 + 2 ≤ 16 := by simpa using g3
      exact c3v_top R (by omega) h16 (c3v_push R _ (by omega) k)
    · have g2 : 2 ≤ nHi v := by simpa using g2
      exact c3v_swap R g2 h16 k
    · have g2 : 1 ≤ nHi v := by simpa using g2
      exact c3v_pop R (by omega) h16 (fun I1 R1 => k _ _ R1)
    · exact ⟨fun e => absurd e (by decide), fun _ => ⟨fun _ => k _ _ R, fun e => absurd (by decide) e⟩⟩
    · have g2 : 1 ≤ nHi v := by simpa using g2
      exact c3v_pop R (by omega) h16 (fun I1 R1 => c7_guardOn R1 (O.2.2.2.2.2.1 _ (by omega)) (show nN v ≤ 80 by omega) hk hg hd hadr k)
    · have g2 : 1 ≤ nHi v := by simpa using g2
      exact c3v_pop R (by omega) h16 (fun I1 R1 => c7_guardOn R1 (O.2.2.2.2.2.1 _ (by omega)) (show nN v ≤ 80 by omega) hk hg hd hadr k)
    · have g2 : 1 ≤ nHi v := by simpa using g2
      exact c3v_pop R (by omega) h16 (fun I1 R1 => k _ _ R1)
    · have g2 : 1 ≤ nHi v := by simpa using g2
      have hp9 : nStk v (nHi v - 1) < nN v := O.2.2.2.2.2.1 _ (by omega)
      have O1 : nOk (nPop 1 v) := O.pop 1
      refine c3v_pop R (by omega) h16 (fun I1 R1 => ?_)
      unfold nPeek at k
      generalize nStk v (nHi v - 1) = p9 at *
      dsimp only at k
      refine c7_peeked R1 O1 (show nN v < 80 from hn) hp9 ?_ ?_ ?_
      · intro hc i hi
        rw [if_pos hc, hi] at k
        exact c3v_push R1 _ (show nHi v - 1 < 16 by omega) k
      · intro hc hi I' A' R'
        rw [if_pos hc, hi] at k
        exact c3v_push R' _ (show nHi v - 1 < 16 by omega) k
      · intro hc I' A' R'
        rw [if_neg hc] at k
        have hk2 := nOp_ok O1 25 (Int32.ofNat p9) (-1) (nPk (nPop 1 v))
        exact c3v_push R' _ (by rw [hk2.2.2.1]; show nHi v - 1 < 16; omega) k
    · have g2 : 2 ≤ nHi v := by simpa using g2
      have hp9 : nStk v (nHi v - 2) < nN v := O.2.2.2.2.2.1 _ (by omega)
      refine c3v_pop R (by omega) h16 (fun I1 R1 => c3v_pop R1 (show 0 < nHi v - 1 by omega) (show nHi v - 1 ≤ 16 by omega) (fun I2 R2 => ?_))
      have e2 : nStk (nPop 1 v) (nHi (nPop 1 v) - 1) = nStk v (nHi v - 2) := by show nStk v (nHi v - 1 - 1) = _; rw [show nHi v - 1 - 1 = nHi v - 2 from by omega]
      have e3 : nPop 1 (nPop 1 v) = nPop 2 v := by
        unfold nPop
        dsimp only [nHi, nN, nPk, nGs, nNw, nFo, nLoc, nStk, nPl, nDf, nGd, nGa]
        rw [Nat.sub_sub]
      rw [e3] at R2
      rw [e2]
      unfold nPoke at k
      dsimp only at k
      exact c7_notePoke R2 (show nN v ≤ 80 by omega) hp9 _ k
end LOOK
