/-! the model finds values -/
section FM
variable {d : Nat} {c : zm} {s : ms} {fr : Nat} {v : nv} {I : Nat → Int32} {A : Nat → Nat → Int32}
theorem c9_value {F : Int32 → zm → Prop} {n0 : Nat} (h : I 55 = Int32.ofNat n0) (hn : n0 < 400) (k : F (Int32.ofNat n0) (yM c s (y1 I 55 (Int32.ofNat (n0 + 1))) (y1 (y1 A 1064 (upd (A 1064) n0 0)) 1066 (upd (A 1066) n0 0)))) : zGo d m_X9_value 0 [.ref 1031] [] (yz (yM c s I A)) (zKi F) := by
  refine B_X9_value_0 ?_
  rw [show yI (yM c s I A) 1031 55 = Int32.ofNat n0 from h, n_cl (by omega), show (Int32.ofNat n0 + 1 : Int32) = Int32.ofNat (n0 + 1) from n_add _ 1, yM_A (by decide), yM_A (by decide), yM_I (by decide)]
  exact ⟨n_in hn (by decide), n_in hn (by decide), k⟩
theorem nF_80 (hn : nN v ≤ 80) {x : Nat} (hx : x ≤ nN v) : nF fr x ≤ 80 := Nat.le_trans nF_le (by omega)
/-- the model asks whether a value is a constant -/
theorem m_con {I9 : Nat → Int32} (M : nM fr I9 A v) {x : Nat} (hx : nVd fr v x) : (yA (yM c s I A) 1064 (nF fr x) = 0) = (¬ nCon v x = true) := by
  have e := (M.2.1 x hx).1
  rw [show yA (yM c s I A) 1064 = A 1064 from rfl, e]
  by_cases q : nCon v x = true
  · rw [if_pos q]
    exact propext ⟨fun z => absurd z (by decide), fun z => absurd q z⟩
  · rw [if_neg q]
    exact propext ⟨fun _ => q, fun _ => rfl⟩
theorem m_num {I9 : Nat → Int32} (M : nM fr I9 A v) {x : Nat} (hx : nVd fr v x) (hc : nCon v x = true) : yA (yM c s I A) 1065 (nF fr x) = nNum v x := (M.2.1 x hx).2.1 hc
theorem nConst_none {k : Int32} (hl : nLook v 1 k (-1) 32 = none) (h32 : 32 ≤ nN v) : ∀ x, 32 ≤ x → x < nN v → ¬ nDf v x = (1, k, -1) := by
  intro x x1 x2 e
  have := vfind_none hl x x1 (by omega)
  rw [decide_eq_true e] at this
  cases this
theorem nLook_none {o : Nat} {l r : Int32} {f0 : Nat} (hl : nLook v o l r f0 = none) : ∀ x, f0 ≤ x → x < nN v → ¬ nDf v x = (o, l, r) := by
  intro x x1 x2 e
  have := vfind_none hl x x1 (by omega)
  rw [decide_eq_true e] at this
  cases this
theorem c9_constX {F : Int32 → zm → Prop} {I0 : Nat → Int32} (M : nM fr I0 A v) (hI : ∀ b, b ≠ 61 → I b = I0 b) (W : nW fr v) (hf : fr ≤ 16) (hn : nN v < 80) (a1 : Int32) (k : ∀ I' A' I'', nM fr I' A' (nConst a1 v).2 → nW fr (nConst a1 v).2 → nVd fr (nConst a1 v).2 (nConst a1 v).1 → (∀ b, b ≠ 61 → I'' b = I' b) → I'' 61 = I 61 → I' 61 = I0 61 → A' 1068 = A 1068 → F (Int32.ofNat (nF fr (nConst a1 v).1)) (yM c s I'' A')) : zGo (d + 1) m_X9_constantOf 0 [.ref 1031, .int a1, zJ] [] (yz (yM c s I A)) (zKi F) := by
  have h32 := W.1.1
  have r0 : I 55 = Int32.ofNat (nF fr (nN v)) := (hI 55 (by decide)).trans M.1.1
  have r1 : yI (yM c s I A) 1031 55 = Int32.ofNat (nF fr (nN v)) := r0
  have hN : nF fr (nN v) ≤ 80 := nF_80 (by omega) (Nat.le_refl _)
  refine B_X9_constantOf_0 _ ?_
  unfold nConst at k
  cases hl : nLook v 1 a1 (-1) 32 with
  | some i =>
    rw [hl] at k
    dsimp only at k
    obtain ⟨l1, l2, l3⟩ := nLook_lt hl
    have hvi : nVd fr v i := ⟨l2, Or.inr l1⟩
    have hci : nCon v i = true := by
      unfold nCon
      rw [l3, Nat.ble_eq_true_of_le l1]
      rfl
    have hni : nNum v i = a1 := by unfold nNum; rw [l3]
    have hlt := nF_lt hf h32 l2 hvi.2
    have loop : ∀ (j q : Nat), q + j = nF fr i → zGo (d + 1) m_X9_constantOf 2 [.ref 1031, .int a1, .int (Int32.ofNat q)] [] (yz (yM c s I A)) (zKi F) := by
      intro j
      induction j with
      | zero =>
        intro q hq
        have hq : q = nF fr i := by omega
        subst hq
        refine B_X9_constantOf_2 _ _ ?_
        rw [r1, n_lt (by omega) (by omega), n_cl (by omega), m_con M hvi, m_num M hvi hci, hni]
        exact ⟨fun _ => ⟨n_in (by omega) (by decide), fun e => absurd hci e, fun _ => ⟨n_in (by omega) (by decide), fun _ => k _ _ _ M W hvi hI rfl rfl rfl, fun e => absurd rfl e⟩⟩, fun e => absurd hlt e⟩
      | succ j ih =>
        intro q hq
        have hqn : q < nF fr (nN v) := by omega
        obtain ⟨x, x1, x2, x3⟩ := nF_sur hf h32 hqn
        have hvx : nVd fr v x := ⟨x1, x2⟩
        refine B_X9_constantOf_2 _ _ ?_
        rw [r1, n_lt (by omega) (by omega), n_cl (by omega), ← x3, m_con M hvx]
        rw [show (Int32.ofNat (nF fr x) + 1 : Int32) = Int32.ofNat (nF fr x + 1) from n_add _ 1]
        refine ⟨fun _ => ⟨n_in (by omega) (by decide), fun _ => ih _ (by omega), fun e => ⟨n_in (by omega) (by decide), fun e2 => ?_, fun _ => ih _ (by omega)⟩⟩, fun e => absurd (by omega) e⟩
        exfalso
        have hcx : nCon v x = true := by
          by_cases z : nCon v x = true
          · exact z
          · exact absurd z e
        rw [m_num M hvx hcx] at e2
        obtain ⟨c1, c2⟩ := nCon_32 hcx
        have hdx : nDf v x = nDf v i := by
          rw [l3]
          rcases W.2.2.2.2.2.1 x c1 x1 with ⟨k1, k2⟩ | ⟨a, b, k1, k2, k3, k4, k5⟩ | ⟨a, k1, k2, k3⟩ | ⟨a, k1, k2, k3⟩
          · unfold nNum at e2
            rw [← e2, ← k1, ← k2]
          · omega
          · omega
          · omega
        have := W.2.2.2.2.2.2.1 x i c1 x1 l1 l2 (by omega) hdx
        rw [this] at x3
        omega
    exact loop (nF fr i) 0 (by omega)
  | none =>
    rw [hl] at k
    dsimp only at k
    have hno := nConst_none hl h32
    have loop : ∀ (j q : Nat), q + j = nF fr (nN v) → zGo (d + 1) m_X9_constantOf 2 [.ref 1031, .int a1, .int (Int32.ofNat q)] [] (yz (yM c s I A)) (zKi F) := by
      intro j
      induction j with
      | zero =>
        intro q hq
        have hq : q = nF fr (nN v) := by omega
        subst hq
        refine B_X9_constantOf_2 _ _ ?_
        rw [r1, n_lt (by omega) (by omega)]
        refine ⟨fun e => absurd e (by omega), fun _ => c9_value r0 (by omega) ?_⟩
        rw [n_cl (by omega), yM_A (by decide), yM_A (by decide)]
        refine ⟨n_in (by omega) (by decide), n_in (by omega) (by decide), ?_⟩
        have W' : nW fr (nMake 1 a1 (-1) v) := W.make (Or.inl ⟨rfl, rfl⟩) (fun _ => hno) (fun e => by omega) hn
        refine k (y1 I0 55 (Int32.ofNat (nF fr (nN v) + 1))) _ _ ?_ W' ⟨Nat.lt_succ_self _, Or.inr h32⟩ (fun b hb => ?_) rfl rfl rfl
        rotate_left
        · by_cases e55 : b = 55
          · rw [e55, y1_same, y1_same]
          · rw [y1_ne _ _ e55, y1_ne _ _ e55]
            exact hI b hb
        obtain ⟨⟨r1, r2, r3, r4, r5, r6, r7, r8, r9⟩, m2, m3, m4⟩ := M
        refine ⟨⟨?_, r2, r3, r4, r5, r6, r7, r8, r9⟩, ?_, ?_, ?_⟩
        · show Int32.ofNat (nF fr (nN v) + 1) = Int32.ofNat (nF fr (nN v + 1))
          rw [nF_succ hf h32]
        · refine nM2.make W hf m2 (fun q hq => ⟨?_, ?_, ?_⟩) ?_ (fun _ => ?_) ?_
          · show upd (upd (A 1064) (nF fr (nN v)) 0) (nF fr (nN v)) 1 q = _
            rw [upd_ne _ _ hq, upd_ne _ _ hq]
          · show upd (A 1065) (nF fr (nN v)) a1 q = _
            rw [upd_ne _ _ hq]
          · show upd (A 1066) (nF fr (nN v)) 0 q = _
            rw [upd_ne _ _ hq]
          · exact upd_same _ _ _
          · exact upd_same _ _ _
          · exact upd_same _ _ _
        · exact nM3.keep m3 (by omega) rfl rfl rfl rfl rfl
        · exact nM4.keep m4 W hn (fun e => by omega) (fun e => by omega) rfl rfl rfl
      | succ j ih =>
        intro q hq
        have hqn : q < nF fr (nN v) := by omega
        obtain ⟨x, x1, x2, x3⟩ := nF_sur hf h32 hqn
        have hvx : nVd fr v x := ⟨x1, x2⟩
        refine B_X9_constantOf_2 _ _ ?_
        rw [r1, n_lt (by omega) (by omega), n_cl (by omega), ← x3, m_con M hvx]
        rw [show (Int32.ofNat (nF fr x) + 1 : Int32) = Int32.ofNat (nF fr x + 1) from n_add _ 1]
        refine ⟨fun _ => ⟨n_in (by omega) (by decide), fun _ => ih _ (by omega), fun e => ⟨n_in (by omega) (by decide), fun e2 => ?_, fun _ => ih _ (by omega)⟩⟩, fun e => absurd (by omega) e⟩
        exfalso
        have hcx : nCon v x = true := by
          by_cases z : nCon v x = true
          · exact z
          · exact absurd z e
        rw [m_num M hvx hcx] at e2
        obtain ⟨c1, c2⟩ := nCon_32 hcx
        refine hno x c1 x1 ?_
        rcases W.2.2.2.2.2.1 x c1 x1 with ⟨k1, k2⟩ | ⟨a, b, k1, k2, k3, k4, k5⟩ | ⟨a, k1, k2, k3⟩ | ⟨a, k1, k2, k3⟩
        · unfold nNum at e2
          rw [← e2, ← k1, ← k2]
        · omega
        · omega
        · omega
    exact loop (nF fr (nN v)) 0 (by omega)
theorem c9_const {F : Int32 → zm → Prop} (M : nM fr I A v) (W : nW fr v) (hf : fr ≤ 16) (hn : nN v < 80) (a1 : Int32) (k : ∀ I' A', nM fr I' A' (nConst a1 v).2 → nW fr (nConst a1 v).2 → nVd fr (nConst a1 v).2 (nConst a1 v).1 → F (Int32.ofNat (nF fr (nConst a1 v).1)) (yM c s I' A')) : zGo (d + 1) m_X9_constantOf 0 [.ref 1031, .int a1, zJ] [] (yz (yM c s I A)) (zKi F) := by
  refine c9_constX M (fun _ _ => rfl) W hf hn a1 (fun I' A' I'' M' W' V' e1 e2 e3 _ => ?_)
  have : I'' = I' := by
    funext b
    by_cases e : b = 61
    · rw [e, e2, e3]
    · exact e1 b e
  rw [this]
  exact k I' A' M' W' V'
theorem c9_guard {F : zm → Prop} (M : nM fr I A v) (W : nW fr v) (hf : fr ≤ 16) (hn : nN v ≤ 80) {x kk : Nat} (hx : nVd fr v x) (hg : nGs v < 48) (k : ∀ I' A', nM fr I' A' (nGuard x kk v) → A' 1068 = A 1068 → F (yM c s I' A')) : zGo d m_X9_guard 0 [.ref 1031, .int (Int32.ofNat (nF fr x)), .int (Int32.ofNat kk)] [] (yz (yM c s I A)) (zKv F) := by
  have hx80 : nF fr x ≤ 80 := nF_80 hn (Nat.le_of_lt hx.1)
  refine B_X9_guard_0 _ _ ?_
  rw [n_cl (by omega), m_con M hx]
  refine ⟨n_in (by omega) (by decide), ?_⟩
  unfold nGuard at k
  by_cases hc : nCon v x = true
  · rw [if_pos (Or.inl hc)] at k
    exact ⟨fun e => absurd hc e, fun _ => k _ _ M rfl⟩
  · refine ⟨fun _ => ⟨n_in (by omega) (by decide), ?_⟩, fun e => absurd hc e⟩
    rw [show yA (yM c s I A) 1066 = A 1066 from rfl, (M.2.1 x hx).2.2]
    by_cases hgd : nGd v x = true
    · rw [if_pos (Or.inr hgd)] at k
      rw [if_pos hgd]
      exact ⟨fun e => absurd e (by decide), fun _ => k _ _ M rfl⟩
    · rw [if_neg (fun z => z.elim hc hgd)] at k
      rw [if_neg hgd]
      refine ⟨fun _ => ⟨n_in (by omega) (by decide), ?_⟩, fun e => absurd rfl e⟩
      have r3 : yI (yM c s I A) 1031 51 = Int32.ofNat (nGs v) := M.1.2.2.1
      rw [r3, n_cl (by omega), yM_A (by decide), yM_A (by decide), show (Int32.ofNat (nGs v) + 1 : Int32) = Int32.ofNat (nGs v + 1) from n_add _ 1, yM_I (by decide)]
      exact ⟨n_in hg (by decide), k _ _ (M.ask hf hx) rfl⟩
/-- found among the made ones, or made -/
theorem c9_find85 {F : Int32 → zm → Prop} (M : nM fr I A v) (W : nW fr v) (hf : fr ≤ 16) (hn : nN v < 80) {o : Nat} (h4 : 4 ≤ o) (h17 : o ≤ 17) (l r la ra a4 : Int32) (hl : nOpd fr v l la) (hr : nOpd fr v r ra)
    (hk : (∃ a b, 4 ≤ o ∧ o ≤ 15 ∧ nVd fr v a ∧ nVd fr v b ∧ (l, r) = (Int32.ofNat a, Int32.ofNat b)) ∨ (∃ a, (o = 16 ∨ o = 17) ∧ nVd fr v a ∧ (l, r) = (Int32.ofNat a, -1)))
    (k : ∀ I' A', nM fr I' A' (nOp o l r 32 v).2 → nW fr (nOp o l r 32 v).2 → nVd fr (nOp o l r 32 v).2 (nOp o l r 32 v).1 → F (Int32.ofNat (nF fr (nOp o l r 32 v).1)) (yM c s I' A')) : zGo (d + 1) m_X9_find 85 [.ref 1031, .int (Int32.ofNat o), .int la, .int ra, .int a4, .int 0] [] (yz (yM c s I A)) (zKi F) := by
  have h32 := W.1.1
  obtain ⟨⟨r1, r2, r3, r4, r5, r6, r7, r8, r9⟩, m2, ⟨mv, mk, q1, q2, q3, q4⟩, m4⟩ := id M
  have e62 : yI (yM c s I A) 1031 62 = Int32.ofNat mk := q1
  -- whether row q is the one
  have hit : ∀ q, q < mk → ((A 1069 q = Int32.ofNat o ∧ A 1070 q = la ∧ A 1071 q = ra) ↔ nDf v (mv q) = (o, l, r)) := by
    intro q hq
    obtain ⟨t1, t2, t3, t4, t5, t6, t7, t8⟩ := q3 q hq
    have b1 := nOpd_eq hf (by omega) t6 hl
    have b2 := nOpd_eq hf (by omega) t7 hr
    constructor
    · rintro ⟨z1, z2, z3⟩
      rw [t5, n_eq (by omega) (by omega)] at z1
      rw [← z1, ← b1.mpr z2, ← b2.mpr z3]
    · intro z
      rw [z] at t5 b1 b2
      exact ⟨t5, b1.mp rfl, b2.mp rfl⟩
  unfold nOp at k
  have step : ∀ (q : Nat) (G : Prop), q < mk → (nDf v (mv q) = (o, l, r) → F (Int32.ofNat (nF fr (mv q))) (yM c s I A)) → (¬ nDf v (mv q) = (o, l, r) → zGo (d + 1) m_X9_find 85 [.ref 1031, .int (Int32.ofNat o), .int la, .int ra, .int a4, .int (Int32.ofNat (q + 1))] [] (yz (yM c s I A)) (zKi F)) → zGo (d + 1) m_X9_find 85 [.ref 1031, .int (Int32.ofNat o), .int la, .int ra, .int a4, .int (Int32.ofNat q)] [] (yz (yM c s I A)) (zKi F) := by
    intro q _ hq k1 k2
    obtain ⟨t1, t2, t3, t4, t5, t6, t7, t8⟩ := q3 q hq
    refine B_X9_find_85 _ _ _ _ _ ?_
    rw [e62, n_lt (by omega) (by omega), n_cl (by omega), show yA (yM c s I A) 1069 = A 1069 from rfl, show yA (yM c s I A) 1070 = A 1070 from rfl, show yA (yM c s I A) 1071 = A 1071 from rfl, show yA (yM c s I A) 1072 = A 1072 from rfl, show (Int32.ofNat q + 1 : Int32) = Int32.ofNat (q + 1) from n_add _ 1, t8]
    refine ⟨fun _ => ⟨n_in (by omega) (by decide), fun z1 => ⟨n_in (by omega) (by decide), fun z2 => ⟨n_in (by omega) (by decide), fun z3 => ⟨n_in (by omega) (by decide), k1 ((hit q hq).mp ⟨z1, z2, z3⟩)⟩, fun z3 => k2 (fun e => z3 ((hit q hq).mpr e).2.2)⟩, fun z2 => k2 (fun e => z2 ((hit q hq).mpr e).2.1)⟩, fun z1 => k2 (fun e => z1 ((hit q hq).mpr e).1)⟩, fun e => absurd hq e⟩
  cases hlk : nLook v o l r 32 with
  | some i =>
    rw [hlk] at k
    dsimp only at k
    obtain ⟨l1, l2, l3⟩ := nLook_lt hlk
    obtain ⟨ki, ki1, ki2⟩ := q4 i l1 l2 (by rw [l3]; exact h4) (by rw [l3]; exact h17)
    have loop : ∀ (j q : Nat), q + j = ki → zGo (d + 1) m_X9_find 85 [.ref 1031, .int (Int32.ofNat o), .int la, .int ra, .int a4, .int (Int32.ofNat q)] [] (yz (yM c s I A)) (zKi F) := by
      have fin : ∀ q, q < mk → nDf v (mv q) = (o, l, r) → F (Int32.ofNat (nF fr (mv q))) (yM c s I A) := by
        intro q hq e
        obtain ⟨t1, t2, t3, t4, -⟩ := q3 q hq
        have := W.2.2.2.2.2.2.1 (mv q) i t1 t2 l1 l2 (by omega) (by rw [e, l3])
        rw [this]
        exact k _ _ M W ⟨l2, Or.inr l1⟩
      intro j
      induction j with
      | zero =>
        intro q hq
        have hq : q = ki := by omega
        subst hq
        exact step q True ki1 (fin q ki1) (fun e => absurd (by rw [ki2]; exact l3) e)
      | succ j ih =>
        intro q hq
        exact step q True (by omega) (fin q (by omega)) (fun _ => ih (q + 1) (by omega))
    exact loop ki 0 (by omega)
  | none =>
    rw [hlk] at k
    dsimp only at k
    have hno := nLook_none hlk
    have loop : ∀ (j q : Nat), q + j = mk → zGo (d + 1) m_X9_find 85 [.ref 1031, .int (Int32.ofNat o), .int la, .int ra, .int a4, .int (Int32.ofNat q)] [] (yz (yM c s I A)) (zKi F) := by
      intro j
      induction j with
      | zero =>
        intro q hq
        have hq : q = mk := by omega
        subst hq
        refine B_X9_find_85 _ _ _ _ _ ?_
        rw [e62, n_lt (by omega) (by omega), n_cl (by omega)]
        refine ⟨fun e => absurd e (by omega), fun _ => ⟨n_in (by omega) (by decide), n_in (by omega) (by decide), n_in (by omega) (by decide), ?_⟩⟩
        rw [yM_A (by decide), yM_A (by decide), yM_A (by decide)]
        have hN : nF fr (nN v) ≤ 80 := nF_80 (by omega) (Nat.le_refl _)
        refine c9_value (n0 := nF fr (nN v)) r1 (by omega) ⟨n_in (by omega) (by decide), ?_⟩
        rw [yM_A (by decide)]
        have e72 : ∀ (I2 : Nat → Int32) (A2 : Nat → Nat → Int32) (x2 : Int32), yA (yM c s I2 (y1 A2 1072 (upd (A2 1072) q x2))) 1072 q = x2 := fun _ _ _ => upd_same _ _ _
        have e62' : ∀ A', yI (yM c s (y1 I 55 (Int32.ofNat (nF fr (nN v) + 1))) A') 1031 62 = Int32.ofNat q := fun _ => q1
        have e52' : ∀ A', yI (yM c s (y1 I 55 (Int32.ofNat (nF fr (nN v) + 1))) A') 1031 52 = Int32.ofNat (nNw v) := fun _ => r4
        rw [e62', e52', n_cl (by omega)]
        refine ⟨n_in (by omega) (by decide), ?_⟩
        rw [e72]
        rw [show (Int32.ofNat (nNw v) + 1 : Int32) = Int32.ofNat (nNw v + 1) from n_add _ 1, show (Int32.ofNat q + 1 : Int32) = Int32.ofNat (q + 1) from n_add _ 1, yM_I (by decide), yM_I (by decide)]
        have W' : nW fr (nMake o l r v) := W.make (Or.inr (hk.elim Or.inl (fun z => Or.inr (Or.inl z)))) (fun _ => hno) (fun e => by omega) hn
        refine k _ _ ?_ W'.count ⟨Nat.lt_succ_self _, Or.inr h32⟩
        refine ⟨⟨?_, r2, r3, rfl, r5, r6, r7, r8, r9⟩, ?_, ?_, ?_⟩
        · show Int32.ofNat (nF fr (nN v) + 1) = Int32.ofNat (nF fr (nN v + 1))
          rw [nF_succ hf h32]
        · refine nM2.make W hf m2 (o := o) (l := l) (r := r) (fun z hz => ⟨?_, rfl, ?_⟩) ?_ (fun e => by omega) ?_
          · show upd (A 1064) (nF fr (nN v)) 0 z = _
            rw [upd_ne _ _ hz]
          · show upd (A 1066) (nF fr (nN v)) 0 z = _
            rw [upd_ne _ _ hz]
          · rw [if_neg (by omega)]
            exact upd_same _ _ _
          · exact upd_same _ _ _
        · refine ⟨nSet mv q (nN v), q + 1, rfl, by show q + 1 ≤ nN v + 1 - 32; omega, fun z hz => ?_, fun x x1 x2 x3 x4 => ?_⟩
          · by_cases e : z = q
            · subst e
              rw [nSet_same]
              have hd : nDf (nCount (nMake o l r v)) (nN v) = (o, l, r) := nSet_same _ _ _
              rw [hd]
              exact ⟨h32, Nat.lt_succ_self _, h4, h17, upd_same _ _ _, by show nOpd fr _ l (upd (A 1070) z la z); rw [upd_same]; exact hl.more (Nat.le_succ _), by show nOpd fr _ r (upd (A 1071) z ra z); rw [upd_same]; exact hr.more (Nat.le_succ _), upd_same _ _ _⟩
            · rw [nSet_ne _ _ e]
              obtain ⟨t1, t2, t3, t4, t5, t6, t7, t8⟩ := q3 z (by omega)
              have hd : nDf (nCount (nMake o l r v)) (mv z) = nDf v (mv z) := nSet_ne _ _ (by omega)
              rw [hd]
              refine ⟨t1, Nat.lt_succ_of_lt t2, t3, t4, ?_, ?_, ?_, ?_⟩
              · show upd (A 1069) q (Int32.ofNat o) z = _
                rw [upd_ne _ _ e]; exact t5
              · show nOpd fr _ _ (upd (A 1070) q la z)
                rw [upd_ne _ _ e]; exact t6.more (Nat.le_succ _)
              · show nOpd fr _ _ (upd (A 1071) q ra z)
                rw [upd_ne _ _ e]; exact t7.more (Nat.le_succ _)
              · show upd (A 1072) q (Int32.ofNat (nF fr (nN v))) z = _
                rw [upd_ne _ _ e]; exact t8
          · have x2 : x < nN v + 1 := x2
            by_cases e : x = nN v
            · exact ⟨q, by omega, by rw [nSet_same, e]⟩
            · have hd : nDf (nCount (nMake o l r v)) x = nDf v x := nSet_ne _ _ e
              rw [hd] at x3 x4
              obtain ⟨z, z1, z2⟩ := q4 x x1 (by omega) x3 x4
              exact ⟨z, by omega, by rw [nSet_ne _ _ (by omega)]; exact z2⟩
        · exact nM4.keep m4 W hn (o := o) (l := l) (r := r) (fun e => by omega) (fun e => by omega) rfl rfl rfl
      | succ j ih =>
        intro q hq
        obtain ⟨t1, t2, -⟩ := q3 q (by omega)
        exact step q True (by omega) (fun e => absurd e (hno _ t1 t2)) (fun _ => ih (q + 1) (by omega))
    exact loop mk 0 (by omega)
end FM
