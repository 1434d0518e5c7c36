/-! the model looks at the steps -/
section FN
variable {d : Nat} {c : zm} {s : ms} {fr : Nat} {v : nv} {I : Nat → Int32} {A : Nat → Nat → Int32}
theorem c9_find2 {F : Int32 → zm → Prop} (M : nM fr I A v) (W : nW fr v) (hf : fr ≤ 16) (hn : nN v < 80) {o l r : Nat} (h4 : 4 ≤ o) (h15 : o ≤ 15) (hl : nVd fr v l) (hr : nVd fr v r) (hz : (o = 7 ∨ o = 8) → nCon v r = true → nCon v l = true → ¬ nNum v r = 0)
    (k : ∀ I' A' q, q = (if nCon v l = true ∧ nCon v r = true then nConst (reck o (nNum v l) (nNum v r)) (nFold v) else nOp o (Int32.ofNat l) (Int32.ofNat r) 32 v) → nM fr I' A' q.2 → nW fr q.2 → nVd fr q.2 q.1 → F (Int32.ofNat (nF fr q.1)) (yM c s I' A')) :
    zGo (d + 2) m_X9_find 0 [.ref 1031, .int (Int32.ofNat o), .int (Int32.ofNat (nF fr l)), .int (Int32.ofNat (nF fr r)), zJ, zJ] [] (yz (yM c s I A)) (zKi F) := by
  have hl80 : nF fr l ≤ 80 := nF_80 (by omega) (Nat.le_of_lt hl.1)
  have hr80 : nF fr r ≤ 80 := nF_80 (by omega) (Nat.le_of_lt hr.1)
  refine B_X9_find_0 _ _ _ ?_
  rw [show ((Int32.ofNat o = 16) = (o = 16)) from n_eq (by omega) (by decide), show ((Int32.ofNat o = 17) = (o = 17)) from n_eq (by omega) (by decide)]
  refine ⟨fun e => absurd e (by omega), fun _ => ⟨fun e => absurd e (by omega), fun _ => ?_⟩⟩
  refine B_X9_find_17 _ _ _ _ ?_
  rw [n_cl (by omega), n_cl (by omega), m_con M hl, m_con M hr]
  have go85 : ¬ (nCon v l = true ∧ nCon v r = true) → zGo (d + 2) m_X9_find 85 [.ref 1031, .int (Int32.ofNat o), .int (Int32.ofNat (nF fr l)), .int (Int32.ofNat (nF fr r)), .int 0, .int 0] [] (yz (yM c s I A)) (zKi F) := by
    intro hno
    exact c9_find85 M W hf hn h4 (by omega) (Int32.ofNat l) (Int32.ofNat r) _ _ _ (Or.inr ⟨l, hl, rfl, rfl⟩) (Or.inr ⟨r, hr, rfl, rfl⟩) (Or.inl ⟨l, r, h4, h15, hl, hr, rfl⟩) (fun I' A' => k I' A' _ (by rw [if_neg hno]))
  refine ⟨n_in (by omega) (by decide), fun e => go85 (fun z => e z.1), fun e => ⟨fun _ => ⟨n_in (by omega) (by decide), fun e2 => go85 (fun z => e2 z.2), fun e2 => ?_⟩, fun z => absurd rfl z⟩⟩
  have hcl : nCon v l = true := by
    by_cases z : nCon v l = true
    · exact z
    · exact absurd z e
  have hcr : nCon v r = true := by
    by_cases z : nCon v r = true
    · exact z
    · exact absurd z e2
  refine B_X9_find_42 _ _ _ _ ?_
  rw [n_cl (by omega), n_cl (by omega), m_num M hl hcl, m_num M hr hcr]
  refine ⟨n_in (by omega) (by decide), fun _ => ⟨n_in (by omega) (by decide), ?_⟩, fun z => absurd rfl z⟩
  have r5 : yI (yM c s I A) 1031 53 = Int32.ofNat (nFo v) := M.1.2.2.2.2.1
  rw [r5, show (Int32.ofNat (nFo v) + 1 : Int32) = Int32.ofNat (nFo v + 1) from n_add _ 1, yM_I (by decide)]
  refine c9_reckon _ _ h4 (by omega) (fun z => hz z hcr hcl) ?_
  exact c9_const M.fold W.fold hf hn _ (fun I' A' => k I' A' _ (by rw [if_pos ⟨hcl, hcr⟩]))
theorem c9_find1 {F : Int32 → zm → Prop} (M : nM fr I A v) (W : nW fr v) (hf : fr ≤ 16) (hn : nN v < 80) {o l : Nat} (ho : o = 16 ∨ o = 17) (hl : nVd fr v l)
    (k : ∀ I' A' q, q = (if nCon v l = true then nConst (reck o (nNum v l) 0) (nFold v) else nOp o (Int32.ofNat l) (-1) 32 v) → nM fr I' A' q.2 → nW fr q.2 → nVd fr q.2 q.1 → F (Int32.ofNat (nF fr q.1)) (yM c s I' A')) :
    zGo (d + 2) m_X9_find 0 [.ref 1031, .int (Int32.ofNat o), .int (Int32.ofNat (nF fr l)), .int (-1), zJ, zJ] [] (yz (yM c s I A)) (zKi F) := by
  have hl80 : nF fr l ≤ 80 := nF_80 (by omega) (Nat.le_of_lt hl.1)
  have go17 : zGo (d + 2) m_X9_find 17 [.ref 1031, .int (Int32.ofNat o), .int (Int32.ofNat (nF fr l)), .int (-1), zJ, zJ] [.int 1] (yz (yM c s I A)) (zKi F) := by
    refine B_X9_find_17 _ _ _ _ ?_
    rw [n_cl (by omega), m_con M hl]
    refine ⟨n_in (by omega) (by decide), fun e => ?_, fun e => ⟨fun z => absurd z (by decide), fun _ => ?_⟩⟩
    · exact c9_find85 M W hf hn (by omega) (by omega) (Int32.ofNat l) (-1) _ _ _ (Or.inr ⟨l, hl, rfl, rfl⟩) (Or.inl ⟨rfl, rfl⟩) (Or.inr ⟨l, ho, hl, rfl⟩) (fun I' A' => k I' A' _ (by rw [if_neg e]))
    · have hcl : nCon v l = true := by
        by_cases z : nCon v l = true
        · exact z
        · exact absurd z e
      refine B_X9_find_42 _ _ _ _ ?_
      rw [n_cl (by omega), m_num M hl hcl]
      refine ⟨n_in (by omega) (by decide), fun z => absurd z (by decide), fun _ => ?_⟩
      have r5 : yI (yM c s I A) 1031 53 = Int32.ofNat (nFo v) := M.1.2.2.2.2.1
      rw [r5, show (Int32.ofNat (nFo v) + 1 : Int32) = Int32.ofNat (nFo v + 1) from n_add _ 1, yM_I (by decide)]
      refine c9_reckon _ _ (by omega) (by omega) (fun z => by omega) ?_
      exact c9_const M.fold W.fold hf hn _ (fun I' A' => k I' A' _ (by rw [if_pos hcl]))
  refine B_X9_find_0 _ _ _ ?_
  rw [show ((Int32.ofNat o = 16) = (o = 16)) from n_eq (by omega) (by decide), show ((Int32.ofNat o = 17) = (o = 17)) from n_eq (by omega) (by decide)]
  exact ⟨fun _ => go17, fun e => ⟨fun _ => go17, fun e2 => absurd ho (fun z => z.elim e e2)⟩⟩
theorem c9_peek {F : Int32 → zm → Prop} (M : nM fr I A v) (W : nW fr v) (hf : fr ≤ 16) (hn : nN v < 80) {p : Nat} (hp : nVd fr v p)
    (k1 : nCon v p = true → ∀ i, nPl v (apl (nNum v p)) = some i → F (Int32.ofNat (nF fr i)) (yM c s I A))
    (k2 : nCon v p = true → nPl v (apl (nNum v p)) = none → ∀ I' A', nM fr I' A' (nPlace (apl (nNum v p)) (nN v) (nCount (nMake 25 (Int32.ofNat p) (-1) v))) → nW fr (nMake 25 (Int32.ofNat p) (-1) v) → F (Int32.ofNat (nF fr (nN v))) (yM c s I' A'))
    (k3 : ¬ nCon v p = true → ∀ I' A', nM fr I' A' (nOp 25 (Int32.ofNat p) (-1) (nPk v) v).2 → nW fr (nOp 25 (Int32.ofNat p) (-1) (nPk v) v).2 → nVd fr (nOp 25 (Int32.ofNat p) (-1) (nPk v) v).2 (nOp 25 (Int32.ofNat p) (-1) (nPk v) v).1 → F (Int32.ofNat (nF fr (nOp 25 (Int32.ofNat p) (-1) (nPk v) v).1)) (yM c s I' A')) :
    zGo (d + 1) m_X9_peek 0 [.ref 1031, .int (Int32.ofNat (nF fr p)), zJ] [] (yz (yM c s I A)) (zKi F) := by
  have h32 := W.1.1
  have hpk := W.1.2.1
  have hp80 : nF fr p ≤ 80 := nF_80 (by omega) (Nat.le_of_lt hp.1)
  have hN : nF fr (nN v) ≤ 80 := nF_80 (by omega) (Nat.le_refl _)
  obtain ⟨⟨r1, r2, r3, r4, r5, r6, r7, r8, r9⟩, m2, m3, ⟨pv, pk, q1, q2, q3, q4⟩⟩ := id M
  refine B_X9_peek_0 _ ?_
  rw [n_cl (by omega), m_con M hp]
  refine ⟨n_in (by omega) (by decide), fun e => ?_, fun e => ⟨n_in (by omega) (by decide), ?_⟩⟩
  · have k3 := k3 e
    have e68 : yI (yM c s I A) 1031 68 = Int32.ofNat pk := q1
    have hcp : nCon v p = false := Bool.eq_false_iff.mpr e
    have hit : ∀ q, q < pk → (A 1074 q = Int32.ofNat (nF fr p) ↔ nDf v (pv q) = (25, Int32.ofNat p, -1)) := by
      intro q hq
      obtain ⟨t1, t2, t3, p', t4, t5, t6, t7⟩ := q3 q hq
      have b1 := t4.1
      have b2 : nF fr p' ≤ p' := nF_le
      rw [t7, t6]
      constructor
      · intro z
        rw [n_eq (by omega) (by omega)] at z
        rw [nF_inj hf t4.2 hp.2 z]
      · intro z
        have : Int32.ofNat p' = Int32.ofNat p := congrArg (fun q => q.2.1) z
        rw [n_eq (by omega) (by have := hp.1; omega)] at this
        rw [this]
    have step : ∀ (q : Nat), q < pk → (nDf v (pv q) = (25, Int32.ofNat p, -1) → F (Int32.ofNat (nF fr (pv q))) (yM c s I A)) → (¬ nDf v (pv q) = (25, Int32.ofNat p, -1) → zGo (d + 1) m_X9_peek 57 [.ref 1031, .int (Int32.ofNat (nF fr p)), .int (Int32.ofNat (q + 1))] [] (yz (yM c s I A)) (zKi F)) → zGo (d + 1) m_X9_peek 57 [.ref 1031, .int (Int32.ofNat (nF fr p)), .int (Int32.ofNat q)] [] (yz (yM c s I A)) (zKi F) := by
      intro q hq k1 k2
      obtain ⟨t1, t2, t3, -⟩ := q3 q hq
      refine B_X9_peek_57 _ _ ?_
      rw [e68, n_lt (by omega) (by omega), n_cl (by omega), show yA (yM c s I A) 1074 = A 1074 from rfl, show yA (yM c s I A) 1075 = A 1075 from rfl, t3, show (Int32.ofNat q + 1 : Int32) = Int32.ofNat (q + 1) from n_add _ 1]
      exact ⟨fun _ => ⟨n_in (by omega) (by decide), fun z => ⟨n_in (by omega) (by decide), k1 ((hit q hq).mp z)⟩, fun z => k2 (fun e => z ((hit q hq).mpr e))⟩, fun e => absurd hq e⟩
    unfold nOp at k3
    cases hlk : nLook v 25 (Int32.ofNat p) (-1) (nPk v) with
    | some i =>
      rw [hlk] at k3
      dsimp only at k3
      obtain ⟨l1, l2, l3⟩ := nLook_lt hlk
      obtain ⟨ki, ki1, ki2⟩ := q4 i p l1 l2 hp hcp l3
      have fin : ∀ q, q < pk → nDf v (pv q) = (25, Int32.ofNat p, -1) → F (Int32.ofNat (nF fr (pv q))) (yM c s I A) := by
        intro q hq e
        obtain ⟨t1, t2, -⟩ := q3 q hq
        have := W.2.2.2.2.2.2.2 (pv q) i p t1 t2 l1 l2 hp hcp e (by rw [e, l3])
        rw [this]
        exact k3 _ _ M W ⟨l2, Or.inr (by omega)⟩
      have loop : ∀ (j q : Nat), q + j = ki → zGo (d + 1) m_X9_peek 57 [.ref 1031, .int (Int32.ofNat (nF fr p)), .int (Int32.ofNat q)] [] (yz (yM c s I A)) (zKi F) := by
        intro j
        induction j with
        | zero =>
          intro q hq
          have hq : q = ki := by omega
          subst hq
          exact step q ki1 (fin q ki1) (fun e => absurd (by rw [ki2]; exact l3) e)
        | succ j ih =>
          intro q hq
          exact step q (by omega) (fin q (by omega)) (fun _ => ih (q + 1) (by omega))
      exact loop ki 0 (by omega)
    | none =>
      rw [hlk] at k3
      dsimp only at k3
      have hno := nLook_none hlk
      have loop : ∀ (j q : Nat), q + j = pk → zGo (d + 1) m_X9_peek 57 [.ref 1031, .int (Int32.ofNat (nF fr p)), .int (Int32.ofNat q)] [] (yz (yM c s I A)) (zKi F) := by
        intro j
        induction j with
        | zero =>
          intro q hq
          have hq : q = pk := by omega
          subst hq
          refine B_X9_peek_57 _ _ ?_
          rw [e68, n_lt (by omega) (by omega), n_cl (by omega)]
          refine ⟨fun e => absurd e (by omega), fun _ => ⟨n_in (by omega) (by decide), ?_⟩⟩
          rw [yM_A (by decide)]
          refine c9_value (n0 := nF fr (nN v)) r1 (by omega) ⟨n_in (by omega) (by decide), ?_⟩
          rw [yM_A (by decide)]
          have e68' : ∀ A', yI (yM c s (y1 I 55 (Int32.ofNat (nF fr (nN v) + 1))) A') 1031 68 = Int32.ofNat q := fun _ => q1
          have e52' : ∀ A', yI (yM c s (y1 I 55 (Int32.ofNat (nF fr (nN v) + 1))) A') 1031 52 = Int32.ofNat (nNw v) := fun _ => r4
          have e75 : ∀ (I2 : Nat → Int32) (A2 : Nat → Nat → Int32) (x2 : Int32), yA (yM c s I2 (y1 A2 1075 (upd (A2 1075) q x2))) 1075 q = x2 := fun _ _ _ => upd_same _ _ _
          rw [e68', e52', n_cl (by omega)]
          refine ⟨n_in (by omega) (by decide), ?_⟩
          rw [e75, show (Int32.ofNat (nNw v) + 1 : Int32) = Int32.ofNat (nNw v + 1) from n_add _ 1, show (Int32.ofNat q + 1 : Int32) = Int32.ofNat (q + 1) from n_add _ 1, yM_I (by decide), yM_I (by decide)]
          have hn2 : 25 = 25 → ∀ p', nVd fr v p' → Int32.ofNat p = Int32.ofNat p' → nCon v p' = false → ∀ x, nPk v ≤ x → x < nN v → ¬ nDf v x = (25, Int32.ofNat p', -1) := by
            intro _ p' hp' ep _ x x1 x2
            rw [← ep]
            exact hno x x1 x2
          have W' : nW fr (nMake 25 (Int32.ofNat p) (-1) v) := W.make (Or.inr (Or.inr (Or.inr ⟨p, rfl, hp, rfl⟩))) (fun e => absurd rfl e) hn2 hn
          refine k3 _ _ ?_ W'.count ⟨Nat.lt_succ_self _, Or.inr h32⟩
          refine ⟨⟨?_, r2, r3, rfl, r5, r6, r7, r8, r9⟩, ?_, ?_, ?_⟩
          · show Int32.ofNat (nF fr (nN v) + 1) = Int32.ofNat (nF fr (nN v + 1))
            rw [nF_succ hf h32]
          · refine nM2.make W hf m2 (o := 25) (l := Int32.ofNat p) (r := -1) (fun z hz => ⟨?_, rfl, ?_⟩) ?_ (fun e => by omega) ?_
            · show upd (A 1064) (nF fr (nN v)) 0 z = _
              rw [upd_ne _ _ hz]
            · show upd (A 1066) (nF fr (nN v)) 0 z = _
              rw [upd_ne _ _ hz]
            · rw [if_neg (by omega)]
              exact upd_same _ _ _
            · exact upd_same _ _ _
          · exact nM3.keep m3 (o := 25) (l := Int32.ofNat p) (r := -1) (by omega) rfl rfl rfl rfl rfl
          · refine ⟨nSet pv q (nN v), q + 1, rfl, by show q + 1 ≤ nN v + 1 - 32; omega, fun z hz => ?_, fun x p' x1 x2 x3 x4 x5 => ?_⟩
            · by_cases e : z = q
              · subst e
                rw [nSet_same]
                have hd : nDf (nCount (nMake 25 (Int32.ofNat p) (-1) v)) (nN v) = (25, Int32.ofNat p, -1) := nSet_same _ _ _
                exact ⟨W.1.2.2.1, Nat.lt_succ_self _, upd_same _ _ _, p, hp.more (Nat.le_succ _), (nCon_make p (by have := hp.1; omega)).1.trans hcp, hd, upd_same _ _ _⟩
              · rw [nSet_ne _ _ e]
                obtain ⟨t1, t2, t3, p', t4, t5, t6, t7⟩ := q3 z (by omega)
                have hd : nDf (nCount (nMake 25 (Int32.ofNat p) (-1) v)) (pv z) = nDf v (pv z) := nSet_ne _ _ (by omega)
                rw [hd]
                refine ⟨t1, Nat.lt_succ_of_lt t2, ?_, p', t4.more (Nat.le_succ _), (nCon_make p' (by have := t4.1; omega)).1.trans t5, t6, ?_⟩
                · show upd (A 1075) q (Int32.ofNat (nF fr (nN v))) z = _
                  rw [upd_ne _ _ e]; exact t3
                · show upd (A 1074) q (Int32.ofNat (nF fr p)) z = _
                  rw [upd_ne _ _ e]; exact t7
            · have x2 : x < nN v + 1 := x2
              have x1 : nPk v ≤ x := x1
              by_cases ex : x = nN v
              · exact ⟨q, by omega, by rw [nSet_same, ex]⟩
              · have hd : nDf (nCount (nMake 25 (Int32.ofNat p) (-1) v)) x = nDf v x := nSet_ne _ _ ex
                rw [hd] at x5
                by_cases ep : p' = nN v
                · exfalso
                  rcases W.2.2.2.2.2.1 x (by omega) (by omega) with ⟨k1, k2⟩ | ⟨a, b, k1, k2, k3, k4, k5⟩ | ⟨a, k1, k2, k3⟩ | ⟨a, k1, k2, k3⟩
                  · rw [x5] at k1; cases k1
                  · rw [x5] at k2; dsimp only at k2; omega
                  · rw [x5] at k1; dsimp only at k1; omega
                  · rw [x5] at k3
                    have g1 : Int32.ofNat p' = Int32.ofNat a := congrArg (fun q => q.1) k3
                    have ha := k2.1
                    rw [n_eq (by omega) (by omega)] at g1
                    omega
                · have hp' : nVd fr v p' := ⟨by have := x3.1; have : p' < nN v + 1 := this; omega, x3.2⟩
                  obtain ⟨z, z1, z2⟩ := q4 x p' x1 (by omega) hp' ((nCon_make p' ep).1.symm.trans x4) x5
                  exact ⟨z, by omega, by rw [nSet_ne _ _ (by omega)]; exact z2⟩
        | succ j ih =>
          intro q hq
          obtain ⟨t1, t2, -⟩ := q3 q (by omega)
          exact step q (by omega) (fun e => absurd e (hno _ t1 t2)) (fun _ => ih (q + 1) (by omega))
      exact loop pk 0 (by omega)
  · have hc : nCon v p = true := by
      by_cases z : nCon v p = true
      · exact z
      · exact absurd z e
    rw [m_num M hp hc]
    refine ⟨apl_in _, ?_⟩
    have ea : Int32.toNatClampNeg (nNum v p &&& 31) = apl (nNum v p) := rfl
    rw [ea, show yA (yM c s I A) 1073 = A 1073 from rfl, r8 _ (by have := (apl_eq (nNum v p)).2; omega)]
    cases hq : nPl v (apl (nNum v p)) with
    | some i =>
      have hi := W.2.2.2.1 _ _ hq
      have hi80 : nF fr i ≤ 80 := nF_80 (by omega) (Nat.le_of_lt hi.1)
      refine ⟨fun z => absurd z (by show ¬ Int32.ofNat (nF fr i) < 0; rw [n_neg (by omega)]; exact id), fun _ => ⟨apl_in _, k1 hc i hq⟩⟩
    | none =>
      refine ⟨fun _ => ?_, fun z => absurd (show (-1 : Int32) < 0 by decide) z⟩
      refine c9_value (n0 := nF fr (nN v)) r1 (by omega) ⟨apl_in _, apl_in _, ?_⟩
      rw [yM_A (by decide)]
      have e52' : ∀ A', yI (yM c s (y1 I 55 (Int32.ofNat (nF fr (nN v) + 1))) A') 1031 52 = Int32.ofNat (nNw v) := fun _ => r4
      have e73 : ∀ (I2 : Nat → Int32) (A2 : Nat → Nat → Int32) (j : Nat) (x2 : Int32), yA (yM c s I2 (y1 A2 1073 (upd (A2 1073) j x2))) 1073 j = x2 := fun _ _ _ _ => upd_same _ _ _
      rw [e52', e73, show (Int32.ofNat (nNw v) + 1 : Int32) = Int32.ofNat (nNw v + 1) from n_add _ 1, yM_I (by decide)]
      have hinj : ∀ p', nVd fr v p' → Int32.ofNat p = Int32.ofNat p' → p = p' := by
        intro p' hp' ep
        have b1 := hp.1
        have b2 := hp'.1
        rw [n_eq (by omega) (by omega)] at ep
        exact ep
      have W' : nW fr (nMake 25 (Int32.ofNat p) (-1) v) := W.make (Or.inr (Or.inr (Or.inr ⟨p, rfl, hp, rfl⟩))) (fun e => absurd rfl e) (fun _ p' hp' ep hcp' => by
        have := hinj p' hp' ep
        subst this
        rw [hc] at hcp'
        cases hcp') hn
      refine k2 hc hq _ _ ?_ W'
      refine nM.place (x := nN v) (v := nCount (nMake 25 (Int32.ofNat p) (-1) v)) ?_ _ rfl
      refine ⟨⟨?_, r2, r3, rfl, r5, r6, r7, r8, r9⟩, ?_, ?_, ?_⟩
      · show Int32.ofNat (nF fr (nN v) + 1) = Int32.ofNat (nF fr (nN v + 1))
        rw [nF_succ hf h32]
      · refine nM2.make W hf m2 (o := 25) (l := Int32.ofNat p) (r := -1) (fun z hz => ⟨?_, rfl, ?_⟩) ?_ (fun e => by omega) ?_
        · show upd (A 1064) (nF fr (nN v)) 0 z = _
          rw [upd_ne _ _ hz]
        · show upd (A 1066) (nF fr (nN v)) 0 z = _
          rw [upd_ne _ _ hz]
        · rw [if_neg (by omega)]
          exact upd_same _ _ _
        · exact upd_same _ _ _
      · exact nM3.keep m3 (o := 25) (l := Int32.ofNat p) (r := -1) (by omega) rfl rfl rfl rfl rfl
      · exact nM4.keep ⟨pv, pk, q1, q2, q3, q4⟩ W hn (o := 25) (l := Int32.ofNat p) (r := -1) (fun _ p' hp' ep => by
          have := hinj p' hp' ep
          subst this
          exact hc) (fun _ => ⟨p, hp, rfl⟩) rfl rfl rfl
theorem c9_poked {F : zm → Prop} (M : nM fr I A v) (hn : nN v ≤ 80) {p x : Nat} (hp : nVd fr v p) (k : ∀ I' A', nM fr I' A' (if nCon v p = true then nPlace (apl (nNum v p)) x (nMark v) else nClear (nMark v)) → F (yM c s I' A')) :
    zGo d m_X9_poked 0 [.ref 1031, .int (Int32.ofNat (nF fr p)), .int (Int32.ofNat (nF fr x)), zJ] [] (yz (yM c s I A)) (zKv F) := by
  have hp80 : nF fr p ≤ 80 := nF_80 (by omega) (Nat.le_of_lt hp.1)
  refine B_X9_poked_0 _ _ ?_
  rw [n_cl (by omega), m_con M hp]
  refine ⟨n_in (by omega) (by decide), fun e => ?_, fun e => ⟨n_in (by omega) (by decide), ?_⟩⟩
  · rw [if_neg e] at k
    rw [yM_I (by decide)]
    have loop : ∀ (j i : Nat) (f : Nat → Int32), i + j = 32 → (∀ q, q < i → f q = -1) → zGo d m_X9_poked 32 [.ref 1031, .int (Int32.ofNat (nF fr p)), .int (Int32.ofNat (nF fr x)), .int (Int32.ofNat i)] [] (yz (yM c s (y1 I 68 0) (y1 A 1073 f))) (zKv F) := by
      intro j
      induction j with
      | zero =>
        intro i f hi hq
        refine B_X9_poked_32 _ _ _ ?_
        rw [n_lit 32, n_lt (by omega) (by decide)]
        exact ⟨fun e => absurd e (by omega), fun _ => k _ _ (M.mark.clear (fun q hq' => hq q (by omega)))⟩
      | succ j ih =>
        intro i f hi hq
        refine B_X9_poked_32 _ _ _ ?_
        rw [n_lit 32, n_lt (by omega) (by decide), n_cl (by omega), yM_A (by decide), y1_over, show (Int32.ofNat i + 1 : Int32) = Int32.ofNat (i + 1) from n_add _ 1]
        refine ⟨fun _ => ⟨n_in (by omega) (by decide), ih (i + 1) _ (by omega) (fun q hq' => ?_)⟩, fun e => absurd (by omega) e⟩
        show upd f i (-1) q = -1
        by_cases e9 : q = i
        · rw [e9, upd_same]
        · rw [upd_ne _ _ e9]
          exact hq q (by omega)
    have := loop 32 0 (A 1073) (by omega) (fun q hq => absurd hq (by omega))
    rw [y1_id] at this
    exact this
  · have hc : nCon v p = true := by
      by_cases z : nCon v p = true
      · exact z
      · exact absurd z e
    rw [if_pos hc] at k
    rw [m_num M hp hc]
    refine ⟨apl_in _, ?_⟩
    rw [yM_I (by decide), yM_A (by decide)]
    exact k _ _ (M.mark.place _ rfl)
end FN
