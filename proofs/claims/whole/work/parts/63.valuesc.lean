/-! the class finds the values -/
def yov (mI : Nat → Nat → Bool) (mA : Nat → Bool) (w : zm) (I A : Nat → Nat → Int32) : zm := (ySz w, ySl w, yK w, (fun p b => bif mI p b then I p b else yI w p b), yL w, yF w, (fun p => bif mA p then A p else yA w p), yB w, yQ w)
theorem yov_I {mI : Nat → Nat → Bool} {mA : Nat → Bool} {w : zm} {I A : Nat → Nat → Int32} {p b : Nat} {x : Int32} (h : mI p b = true) : yuI (yov mI mA w I A) p b x = yov mI mA w (y2 I p b x) A := by
  unfold yuI yov
  refine congrArg (fun f : Nat → Nat → Int32 => ((ySz w, ySl w, yK w, f, yL w, yF w, (fun p => bif mA p then A p else yA w p), yB w, yQ w) : zm)) ?_
  funext q j
  show y2 (fun p b => bif mI p b then I p b else yI w p b) p b x q j = _
  by_cases e : q = p ∧ j = b
  · obtain ⟨rfl, rfl⟩ := e
    rw [y2_same, y2_same, h]
    rfl
  · have e' : q ≠ p ∨ j ≠ b := by
      by_cases h3 : q = p
      · exact Or.inr (fun h4 => e ⟨h3, h4⟩)
      · exact Or.inl h3
    rw [y2_ne _ _ e', y2_ne _ _ e']
theorem yov_R {mI : Nat → Nat → Bool} {mA : Nat → Bool} {w : zm} {I A : Nat → Nat → Int32} {p : Nat} {f : Nat → Int32} (h : mA p = true) : yuR (yov mI mA w I A) p f = yov mI mA w I (y1 A p f) := by
  unfold yuR yov
  refine congrArg (fun f : Nat → Nat → Int32 => ((ySz w, ySl w, yK w, (fun p b => bif mI p b then I p b else yI w p b), yL w, yF w, f, yB w, yQ w) : zm)) ?_
  funext q
  show y1 (fun p => bif mA p then A p else yA w p) p f q = _
  by_cases e : q = p
  · subst e
    rw [y1_same, y1_same, h]
    rfl
  · rw [y1_ne _ _ e, y1_ne _ _ e]
theorem yov_A {mI : Nat → Nat → Bool} {mA : Nat → Bool} {w : zm} {I A : Nat → Nat → Int32} {p i : Nat} {x : Int32} (h : mA p = true) : yuA (yov mI mA w I A) p i x = yov mI mA w I (y1 A p (upd (A p) i x)) := by
  have : yA (yov mI mA w I A) p = A p := by
    show (bif mA p then A p else yA w p) = A p
    rw [h]
    rfl
  unfold yuA
  rw [this, yov_R h]
theorem yov_id (mI : Nat → Nat → Bool) (mA : Nat → Bool) (w : zm) : w = yov mI mA w (yI w) (yA w) := by
  have e1 : (fun p b => bif mI p b then yI w p b else yI w p b) = yI w := by
    funext p b
    cases mI p b <;> rfl
  have e2 : (fun p => bif mA p then yA w p else yA w p) = yA w := by
    funext p
    cases mA p <;> rfl
  unfold yov
  rw [e1, e2]
  rfl
def mVI (p b : Nat) : Bool := (Nat.beq p 1013 && (Nat.beq b 8 || Nat.beq b 9)) || (Nat.beq p 1015 && Nat.beq b 1) || (Nat.beq p 1026 && (Nat.beq b 6 || Nat.beq b 7 || Nat.beq b 8))
def mVA (p : Nat) : Bool := Nat.beq p 1014 || (Nat.ble 1016 p && Nat.ble p 1021) || Nat.beq p 1029 || Nat.beq p 1030
def yV (w : zm) (I A : Nat → Nat → Int32) : zm := yov mVI mVA w I A
/-- what the class's rows hold of the values; L: how many steps, g0: the guards' numbers before -/
def nC (adr g0 : Nat → Int32) (I A : Nat → Nat → Int32) (v : nv) : Prop :=
  I 1013 8 = Int32.ofNat (nN v) ∧ I 1013 9 = Int32.ofNat (nPk v) ∧ I 1015 1 = Int32.ofNat (nHi v) ∧ I 1026 6 = Int32.ofNat (nGs v) ∧ I 1026 7 = Int32.ofNat (nNw v) ∧ I 1026 8 = Int32.ofNat (nFo v) ∧
  (∀ i, i < 16 → A 1014 i = Int32.ofNat (nLoc v i)) ∧ (∀ i, i < nHi v → A 1016 i = Int32.ofNat (nStk v i)) ∧ (∀ i, i < 32 → A 1017 i = vov (nPl v i)) ∧
  (∀ i, i < 32 → A 1018 i = -1) ∧ (∀ i, 32 ≤ i → i < nN v → (nDf v i).1 ≤ 26 ∧ A 1018 i = Int32.ofNat (nDf v i).1 ∧ A 1019 i = (nDf v i).2.1 ∧ A 1020 i = (nDf v i).2.2) ∧
  (∀ i, i < 80 → A 1021 i = if nGd v i = true then 1 else 0) ∧ (∀ k, k < nGs v → A 1029 (nGa v k) = Int32.ofNat k ∧ A 1030 k = adr (nGa v k)) ∧ (∀ i, (∀ k, k < nGs v → nGa v k ≠ i) → A 1029 i = g0 i)
section VAL
variable {d : Nat} {w : zm} {adr g0 : Nat → Int32} {I A : Nat → Nat → Int32} {v : nv}
theorem nC.push (R : nC adr g0 I A v) (x : Nat) : nC adr g0 (y2 I 1015 1 (Int32.ofNat (nHi v + 1))) (y1 A 1016 (upd (A 1016) (nHi v) (Int32.ofNat x))) (nPush x v) := by
  obtain ⟨r1, r2, r3, r4, r5, r6, r7, r8, r9, r10, r11, r12, r13, r14⟩ := R
  refine ⟨r1, r2, rfl, r4, r5, r6, r7, fun i hi => ?_, r9, r10, r11, r12, r13, r14⟩
  show upd (A 1016) (nHi v) (Int32.ofNat x) i = Int32.ofNat (nSet (nStk v) (nHi v) x i)
  have hi : i < nHi v + 1 := hi
  by_cases e : i = nHi v
  · rw [e, upd_same, nSet_same]
  · rw [upd_ne _ _ e, nSet_ne _ _ e]
    exact r8 i (by omega)
theorem nC.pop (R : nC adr g0 I A v) (k : Nat) : nC adr g0 (y2 I 1015 1 (Int32.ofNat (nHi v - k))) A (nPop k v) := by
  obtain ⟨r1, r2, r3, r4, r5, r6, r7, r8, r9, r10, r11, r12, r13, r14⟩ := R
  exact ⟨r1, r2, rfl, r4, r5, r6, r7, fun i hi => r8 i (by have hi : i < nHi v - k := hi; omega), r9, r10, r11, r12, r13, r14⟩
theorem nC.make (R : nC adr g0 I A v) {o : Nat} (ho : o ≤ 26) (l r : Int32) (h32 : 32 ≤ nN v) : nC adr g0 (y2 I 1013 8 (Int32.ofNat (nN v + 1))) (y1 (y1 (y1 A 1018 (upd (A 1018) (nN v) (Int32.ofNat o))) 1019 (upd (A 1019) (nN v) l)) 1020 (upd (A 1020) (nN v) r)) (nMake o l r v) := by
  obtain ⟨r1, r2, r3, r4, r5, r6, r7, r8, r9, r10, r11, r12, r13, r14⟩ := R
  refine ⟨rfl, r2, r3, r4, r5, r6, r7, r8, r9, fun i hi => ?_, fun i h1 h2 => ?_, r12, r13, r14⟩
  · show upd (A 1018) (nN v) (Int32.ofNat o) i = -1
    rw [upd_ne _ _ (by omega)]
    exact r10 i hi
  · have h2 : i < nN v + 1 := h2
    show (nSet (nDf v) (nN v) (o, l, r) i).1 ≤ 26 ∧ upd (A 1018) (nN v) (Int32.ofNat o) i = Int32.ofNat (nSet (nDf v) (nN v) (o, l, r) i).1 ∧ upd (A 1019) (nN v) l i = (nSet (nDf v) (nN v) (o, l, r) i).2.1 ∧ upd (A 1020) (nN v) r i = (nSet (nDf v) (nN v) (o, l, r) i).2.2
    by_cases e : i = nN v
    · rw [e, nSet_same, upd_same, upd_same, upd_same]
      exact ⟨ho, rfl, rfl, rfl⟩
    · rw [nSet_ne _ _ e, upd_ne _ _ e, upd_ne _ _ e, upd_ne _ _ e]
      exact r11 i h1 (by omega)
theorem nC.count (R : nC adr g0 I A v) : nC adr g0 (y2 I 1026 7 (Int32.ofNat (nNw v + 1))) A (nCount v) := by
  obtain ⟨r1, r2, r3, r4, r5, r6, r7, r8, r9, r10, r11, r12, r13, r14⟩ := R
  exact ⟨r1, r2, r3, r4, rfl, r6, r7, r8, r9, r10, r11, r12, r13, r14⟩
theorem nC.fold (R : nC adr g0 I A v) : nC adr g0 (y2 I 1026 8 (Int32.ofNat (nFo v + 1))) A (nFold v) := by
  obtain ⟨r1, r2, r3, r4, r5, r6, r7, r8, r9, r10, r11, r12, r13, r14⟩ := R
  exact ⟨r1, r2, r3, r4, r5, rfl, r7, r8, r9, r10, r11, r12, r13, r14⟩
theorem nC.store (R : nC adr g0 I A v) (j x : Nat) : nC adr g0 I (y1 A 1014 (upd (A 1014) j (Int32.ofNat x))) (nStore j x v) := by
  obtain ⟨r1, r2, r3, r4, r5, r6, r7, r8, r9, r10, r11, r12, r13, r14⟩ := R
  refine ⟨r1, r2, r3, r4, r5, r6, fun i hi => ?_, r8, r9, r10, r11, r12, r13, r14⟩
  show upd (A 1014) j (Int32.ofNat x) i = Int32.ofNat (nSet (nLoc v) j x i)
  by_cases e : i = j
  · rw [e, upd_same, nSet_same]
  · rw [upd_ne _ _ e, nSet_ne _ _ e]
    exact r7 i hi
theorem nC.place (R : nC adr g0 I A v) (j x : Nat) : nC adr g0 I (y1 A 1017 (upd (A 1017) j (Int32.ofNat x))) (nPlace j x v) := by
  obtain ⟨r1, r2, r3, r4, r5, r6, r7, r8, r9, r10, r11, r12, r13, r14⟩ := R
  refine ⟨r1, r2, r3, r4, r5, r6, r7, r8, fun i hi => ?_, r10, r11, r12, r13, r14⟩
  show upd (A 1017) j (Int32.ofNat x) i = vov (nSet (nPl v) j (some x) i)
  by_cases e : i = j
  · rw [e, upd_same, nSet_same]
    rfl
  · rw [upd_ne _ _ e, nSet_ne _ _ e]
    exact r9 i hi
theorem nC.clear (R : nC adr g0 I A v) : nC adr g0 I (y1 A 1017 (fun i => if i < 32 then -1 else A 1017 i)) (nClear v) := by
  obtain ⟨r1, r2, r3, r4, r5, r6, r7, r8, r9, r10, r11, r12, r13, r14⟩ := R
  refine ⟨r1, r2, r3, r4, r5, r6, r7, r8, fun i hi => ?_, r10, r11, r12, r13, r14⟩
  show (if i < 32 then -1 else A 1017 i) = vov none
  rw [if_pos hi]
  rfl
theorem nC.mark (R : nC adr g0 I A v) : nC adr g0 (y2 I 1013 9 (Int32.ofNat (nN v))) A (nMark v) := by
  obtain ⟨r1, r2, r3, r4, r5, r6, r7, r8, r9, r10, r11, r12, r13, r14⟩ := R
  exact ⟨r1, rfl, r3, r4, r5, r6, r7, r8, r9, r10, r11, r12, r13, r14⟩
theorem nC.ask (R : nC adr g0 I A v) {x k : Nat} (hk : ∀ j, j < nGs v → nGa v j ≠ k) : nC adr g0 (y2 I 1026 6 (Int32.ofNat (nGs v + 1))) (y1 (y1 (y1 A 1021 (upd (A 1021) x 1)) 1029 (upd (A 1029) k (Int32.ofNat (nGs v)))) 1030 (upd (A 1030) (nGs v) (adr k))) (nAsk x k v) := by
  obtain ⟨r1, r2, r3, r4, r5, r6, r7, r8, r9, r10, r11, r12, r13, r14⟩ := R
  refine ⟨r1, r2, r3, rfl, r5, r6, r7, r8, r9, r10, r11, fun i hi => ?_, fun j hj => ?_, fun i hi => ?_⟩
  · show upd (A 1021) x 1 i = if nSet (nGd v) x true i = true then 1 else 0
    by_cases e : i = x
    · rw [e, upd_same, nSet_same]
      rfl
    · rw [upd_ne _ _ e, nSet_ne _ _ e]
      exact r12 i hi
  · have hj : j < nGs v + 1 := hj
    show upd (A 1029) k (Int32.ofNat (nGs v)) (nSet (nGa v) (nGs v) k j) = Int32.ofNat j ∧ upd (A 1030) (nGs v) (adr k) j = adr (nSet (nGa v) (nGs v) k j)
    by_cases e : j = nGs v
    · rw [e, nSet_same, upd_same, upd_same]
      exact ⟨rfl, rfl⟩
    · rw [nSet_ne _ _ e, upd_ne _ _ (hk j (by omega)), upd_ne _ _ e]
      exact r13 j (by omega)
  · have hi : ∀ j, j < nGs v + 1 → nSet (nGa v) (nGs v) k j ≠ i := hi
    show upd (A 1029) k (Int32.ofNat (nGs v)) i = g0 i
    have h9 := hi (nGs v) (by omega)
    rw [nSet_same] at h9
    rw [upd_ne _ _ (fun e => h9 e.symm)]
    refine r14 i (fun j hj => ?_)
    have := hi j (by omega)
    rwa [nSet_ne _ _ (by omega)] at this
/-! the class's questions -/
theorem c7_isC {F : Int32 → zm → Prop} (R : nC adr g0 I A v) {x : Nat} (hx : x < nN v) (hn : nN v ≤ 80) (k : F (if nCon v x = true then 1 else 0) (yV w I A)) : zGo d m_X7_isConstant 0 [.ref 1013, .int (Int32.ofNat x)] [] (yz (yV w I A)) (zKi F) := by
  obtain ⟨r1, r2, r3, r4, r5, r6, r7, r8, r9, r10, r11, r12, r13, r14⟩ := R
  refine B_X7_isConstant_0 _ ?_
  rw [n_neg (by omega), n_lit 80, n_lt (by omega) (by omega), n_cl (by omega)]
  refine ⟨fun e => e.elim, fun _ => ⟨fun _ => ⟨n_in (by omega) (by decide), ?_⟩, fun e => absurd (by omega) e⟩⟩
  have e1 : yA (yV w I A) 1018 = A 1018 := rfl
  rw [e1]
  unfold nCon at k
  by_cases h : 32 ≤ x
  · obtain ⟨q0, q1, -⟩ := r11 x h hx
    rw [q1, show ((Int32.ofNat (nDf v x).1 = 1) = ((nDf v x).1 = 1)) from n_eq (by omega) (by decide)]
    rw [Nat.ble_eq_true_of_le h] at k
    by_cases e : (nDf v x).1 = 1
    · rw [if_pos (by rw [decide_eq_true e]; rfl)] at k
      exact ⟨fun _ => k, fun z => absurd e z⟩
    · rw [if_neg (by rw [decide_eq_false e]; decide)] at k
      exact ⟨fun z => absurd z e, fun _ => k⟩
  · rw [r10 x (by omega)]
    rw [if_neg (by
      intro z
      have : Nat.ble 32 x = true := by
        cases hq : Nat.ble 32 x with
        | true => rfl
        | false => rw [hq] at z; cases z
      exact h (Nat.le_of_ble_eq_true this))] at k
    exact ⟨fun z => absurd z (by decide), fun _ => k⟩
theorem c7_isCm {F : Int32 → zm → Prop} (k : F 0 w) : zGo d m_X7_isConstant 0 [.ref 1013, .int (-1)] [] (yz w) (zKi F) :=
  B_X7_isConstant_0 _ ⟨fun _ => k, fun e => absurd (by decide) e⟩
theorem nCon_32 {x : Nat} (h : nCon v x = true) : 32 ≤ x ∧ (nDf v x).1 = 1 := by
  unfold nCon at h
  rw [Bool.and_eq_true] at h
  exact ⟨Nat.le_of_ble_eq_true h.1, of_decide_eq_true h.2⟩
theorem c7_num {F : Int32 → zm → Prop} (R : nC adr g0 I A v) {x : Nat} (hx : x < nN v) (hn : nN v ≤ 80) (hc : nCon v x = true) (k : F (nNum v x) (yV w I A)) : zGo (d + 1) m_X7_numberOf 0 [.ref 1013, .int (Int32.ofNat x)] [] (yz (yV w I A)) (zKi F) := by
  refine B_X7_numberOf_0 _ (c7_isC R hx hn ?_)
  rw [if_pos hc]
  refine ⟨fun e => absurd e (by decide), fun _ => ⟨n_in (by omega) (by decide), ?_⟩⟩
  rw [n_cl (by omega)]
  have := (R.2.2.2.2.2.2.2.2.2.2.1 x (nCon_32 hc).1 hx).2.2.1
  rw [show yA (yV w I A) 1019 = A 1019 from rfl, this]
  exact k
theorem c7_numm {F : Int32 → zm → Prop} (k : F 0 w) : zGo (d + 1) m_X7_numberOf 0 [.ref 1013, .int (-1)] [] (yz w) (zKi F) := by
  refine B_X7_numberOf_0 _ (c7_isCm ?_)
  exact ⟨fun _ => k, fun e => absurd rfl e⟩
theorem c7_made {F : Int32 → zm → Prop} (R : nC adr g0 I A v) (hn : nN v ≤ 80) {o : Nat} (ho : o ≤ 26) (l r : Int32) (a4 : Int32) : ∀ (j i : Nat), 32 ≤ i → i + j = nN v → F (vov (vfind (fun i => decide (nDf v i = (o, l, r))) j i)) (yV w I A) → zGo d m_X7_made 13 [.ref 1013, .int (Int32.ofNat o), .int l, .int r, .int a4, .int (Int32.ofNat i)] [] (yz (yV w I A)) (zKi F) := by
  obtain ⟨r1, r2, r3, r4, r5, r6, r7, r8, r9, r10, r11, r12, r13, r14⟩ := R
  intro j
  induction j with
  | zero =>
    intro i h32 hi k
    refine B_X7_made_13 _ _ _ _ _ ?_
    rw [show yI (yV w I A) 1013 8 = Int32.ofNat (nN v) from r1, n_lt (by omega) (by omega)]
    exact ⟨fun e => absurd e (by omega), fun _ => k⟩
  | succ j ih =>
    intro i h32 hi k
    refine B_X7_made_13 _ _ _ _ _ ?_
    rw [show yI (yV w I A) 1013 8 = Int32.ofNat (nN v) from r1, n_lt (by omega) (by omega), n_lit 80, n_lt (by omega) (by omega), n_cl (by omega)]
    refine ⟨fun _ => ⟨fun _ => ⟨n_in (by omega) (by decide), ?_⟩, fun e => absurd (by omega) e⟩, fun e => absurd (by omega) e⟩
    obtain ⟨q0, q1, q2, q3⟩ := r11 i h32 (by omega)
    rw [show yA (yV w I A) 1018 = A 1018 from rfl, show yA (yV w I A) 1019 = A 1019 from rfl, show yA (yV w I A) 1020 = A 1020 from rfl, q1, q2, q3, n_eq (by omega) (by omega)]
    rw [show (Int32.ofNat i + 1 : Int32) = Int32.ofNat (i + 1) from n_add i 1]
    unfold vfind at k
    have no : ¬ nDf v i = (o, l, r) → zGo d m_X7_made 13 [.ref 1013, .int (Int32.ofNat o), .int l, .int r, .int a4, .int (Int32.ofNat (i + 1))] [] (yz (yV w I A)) (zKi F) := by
      intro e
      rw [if_neg (by rw [decide_eq_false e]; decide)] at k
      exact ih (i + 1) (by omega) (by omega) k
    refine ⟨fun e1 => ⟨n_in (by omega) (by decide), fun e2 => ⟨n_in (by omega) (by decide), fun e3 => ?_, fun e3 => no (fun e => e3 (by rw [e]))⟩, fun e2 => no (fun e => e2 (by rw [e]))⟩, fun e1 => no (fun e => e1 (by rw [e]))⟩
    have e : nDf v i = (o, l, r) := by
      rw [← e1, ← e2, ← e3]
    rw [if_pos (decide_eq_true e)] at k
    exact k
theorem c7_look {F : Int32 → zm → Prop} (R : nC adr g0 I A v) (hn : nN v ≤ 80) {o : Nat} (ho : o ≤ 26) (l r : Int32) {fr : Nat} (h32 : 32 ≤ fr) (hfr : fr ≤ nN v) (k : F (vov (nLook v o l r fr)) (yV w I A)) : zGo d m_X7_made 0 [.ref 1013, .int (Int32.ofNat o), .int l, .int r, .int (Int32.ofNat fr), zJ] [] (yz (yV w I A)) (zKi F) := by
  refine B_X7_made_0 _ _ _ _ ⟨fun e => absurd e (by rw [n_neg (by omega)]; exact id), fun _ => ?_⟩
  exact c7_made R hn ho l r _ (nN v - fr) fr h32 (by omega) k
theorem c7_make {F : Int32 → zm → Prop} (R : nC adr g0 I A v) (h32 : 32 ≤ nN v) (hn : nN v < 80) {o : Nat} (ho : o ≤ 26) (l r : Int32) (k : ∀ I' A', nC adr g0 I' A' (nMake o l r v) → F (Int32.ofNat (nN v)) (yV w I' A')) : zGo d m_X7_make 0 [.ref 1013, .int (Int32.ofNat o), .int l, .int r] [] (yz (yV w I A)) (zKi F) := by
  have r1 : yI (yV w I A) 1013 8 = Int32.ofNat (nN v) := R.1
  refine B_X7_make_0 _ _ _ ?_
  rw [r1, n_neg (by omega), n_lit 80, n_lt (by omega) (by omega), n_cl (by omega)]
  refine ⟨fun e => e.elim, fun _ => ⟨fun _ => ⟨n_in (by omega) (by decide), n_in (by omega) (by decide), n_in (by omega) (by decide), ?_⟩, fun e => absurd hn e⟩⟩
  rw [show (Int32.ofNat (nN v) + 1 : Int32) = Int32.ofNat (nN v + 1) from n_add _ 1]
  rw [show (Int32.ofNat (nN v + 1) - 1 : Int32) = Int32.ofNat (nN v + 1 - 1) from n_sub (a := nN v + 1) (b := 1) (by omega), Nat.add_sub_cancel]
  unfold yV
  rw [yov_A (by decide), yov_A (by decide), yov_A (by decide), yov_I (by decide)]
  exact k _ _ (R.make ho l r h32)
theorem c7_const {F : Int32 → zm → Prop} (R : nC adr g0 I A v) (h32 : 32 ≤ nN v) (hn : nN v < 80) (c : Int32) (k : ∀ I' A', nC adr g0 I' A' (nConst c v).2 → F (Int32.ofNat (nConst c v).1) (yV w I' A')) : zGo (d + 1) m_X7_constant 0 [.ref 1013, .int c, zJ] [] (yz (yV w I A)) (zKi F) := by
  refine B_X7_constant_0 _ (c7_look (o := 1) R (by omega) (by decide) c (-1) (fr := 32) (Nat.le_refl _) h32 ?_)
  unfold nConst at k
  cases hl : nLook v 1 c (-1) 32 with
  | some i =>
    rw [hl] at k
    have hi := (nLook_lt hl).2.1
    refine ⟨fun e => absurd e (by show ¬ Int32.ofNat i = -1; rw [n_m1 (by omega)]; exact id), fun _ => k _ _ R⟩
  | none =>
    rw [hl] at k
    exact ⟨fun _ => c7_make (o := 1) R h32 hn (by decide) c (-1) k, fun e => absurd rfl e⟩
theorem c7_makeNew {F : Int32 → zm → Prop} (R : nC adr g0 I A v) (h32 : 32 ≤ nN v) (hn : nN v < 80) {o : Nat} (ho : o ≤ 26) (l r : Int32) (k : ∀ I' A', nC adr g0 I' A' (nCount (nMake o l r v)) → F (Int32.ofNat (nN v)) (yV w I' A')) : zGo (d + 1) m_X7_makeNew 0 [.ref 1013, .int (Int32.ofNat o), .int l, .int r, .ref 1026] [] (yz (yV w I A)) (zKi F) := by
  have r5 : yI (yV w I A) 1026 7 = Int32.ofNat (nNw v) := R.2.2.2.2.1
  refine B_X7_makeNew_0 _ _ _ ?_
  rw [r5, show (Int32.ofNat (nNw v) + 1 : Int32) = Int32.ofNat (nNw v + 1) from n_add _ 1]
  unfold yV
  rw [yov_I (by decide)]
  exact c7_make (R.count) h32 hn ho l r (fun I' A' R' => k I' A' R')
theorem c7_op {F : Int32 → zm → Prop} (R : nC adr g0 I A v) (h32 : 32 ≤ nN v) (hn : nN v < 80) {o : Nat} (ho : o ≤ 26) (l r : Int32) {G : Int32 → zm → Prop}
    (k1 : ∀ i, nLook v o l r 32 = some i → F (Int32.ofNat i) (yV w I A)) (k2 : nLook v o l r 32 = none → F (-1) (yV w I A)) : zGo d m_X7_made 0 [.ref 1013, .int (Int32.ofNat o), .int l, .int r, .int 32, zJ] [] (yz (yV w I A)) (zKi F) := by
  refine c7_look R (by omega) ho l r (fr := 32) (Nat.le_refl _) h32 ?_
  cases hl : nLook v o l r 32 with
  | some i => exact k1 i hl
  | none => exact k2 hl
theorem c7_guardOn {F : zm → Prop} (R : nC adr g0 I A v) {x kk : Nat} (hx : x < nN v) (hn : nN v ≤ 80) (hk : kk < 48) (hg : nGs v < 48) (hd : ∀ j, j < nGs v → nGa v j ≠ kk) (hadr : yA w 1027 = adr) (k : ∀ I' A', nC adr g0 I' A' (nGuard x kk v) → F (yV w I' A')) : zGo (d + 1) m_X7_guardOn 0 [.ref 1013, .int (Int32.ofNat x), .ref 1026, .int (Int32.ofNat kk)] [] (yz (yV w I A)) (zKv F) := by
  refine B_X7_guardOn_0 _ _ ?_
  rw [n_neg (by omega), n_lit 80, n_lt (by omega) (by omega), n_cl (by omega)]
  refine ⟨fun e => e.elim, fun _ => ⟨fun _ => c7_isC R hx hn ?_, fun e => absurd (by omega) e⟩⟩
  unfold nGuard at k
  by_cases hc : nCon v x = true
  · rw [if_pos hc]
    rw [if_pos (Or.inl hc)] at k
    exact ⟨fun e => absurd e (by decide), fun _ => k _ _ R⟩
  · rw [if_neg hc]
    refine ⟨fun _ => ⟨n_in (by omega) (by decide), ?_⟩, fun e => absurd rfl e⟩
    rw [show yA (yV w I A) 1021 = A 1021 from rfl, R.2.2.2.2.2.2.2.2.2.2.2.1 x (by omega)]
    by_cases hgd : nGd v x = true
    · rw [if_pos hgd]
      rw [if_pos (Or.inr hgd)] at k
      exact ⟨fun _ => k _ _ R, fun e => absurd rfl e⟩
    · rw [if_neg hgd]
      rw [if_neg (fun z => z.elim hc hgd)] at k
      refine ⟨fun e => absurd e (by decide), fun _ => ⟨n_in (by omega) (by decide), ?_⟩⟩
      have r4 : I 1026 6 = Int32.ofNat (nGs v) := R.2.2.2.1
      unfold yV
      rw [yov_A (by decide)]
      refine B_X2_addGuard_r_0 _ ?_
      have e4 : yI (yov mVI mVA w I (y1 A 1021 (upd (A 1021) x 1))) 1026 6 = Int32.ofNat (nGs v) := r4
      rw [e4, n_neg (by omega), n_neg (by omega), n_lit 48, n_lt (by omega) (by omega), n_lt (by omega) (by omega), n_cl (by omega), n_cl (by omega)]
      refine ⟨fun e => e.elim, fun _ => ⟨fun _ => ⟨fun e => e.elim, fun _ => ⟨fun _ => ⟨n_in hk (by decide), n_in hk (by decide), n_in hg (by decide), ?_⟩, fun e => absurd hg e⟩⟩, fun e => absurd hk e⟩⟩
      rw [yov_A (by decide), yov_A (by decide), show (Int32.ofNat (nGs v) + 1 : Int32) = Int32.ofNat (nGs v + 1) from n_add _ 1, yov_I (by decide)]
      rw [show yA (yov mVI mVA w I (y1 A 1021 (upd (A 1021) x 1))) 1027 = adr from hadr]
      exact k _ _ (R.ask hd)
/-! the class's pile of values -/
theorem c3v_pop {F : Int32 → zm → Prop} (R : nC adr g0 I A v) (h0 : 0 < nHi v) (h1 : nHi v ≤ 16) (k : ∀ I', nC adr g0 I' A (nPop 1 v) → F (Int32.ofNat (nStk v (nHi v - 1))) (yV w I' A)) : zGo (d + 1) m_X3_pop 0 [.ref 1015] [] (yz (yV w I A)) (zKi F) := by
  have r3 : yI (yV w I A) 1015 1 = Int32.ofNat (nHi v) := R.2.2.1
  refine B_X3_pop_v_0 ?_
  have hn1 : (Int32.ofNat (nHi v) - 1 : Int32) = Int32.ofNat (nHi v - 1) := n_sub (a := nHi v) (b := 1) (by omega)
  have hlt : (0 < Int32.ofNat (nHi v)) = (0 < nHi v) := n_lt (a := 0) (by decide) (by omega)
  rw [r3, hn1, n_lit 16, n_lt (by decide) (by omega), n_cl (by omega), show yA (yV w I A) 1016 = A 1016 from rfl, R.2.2.2.2.2.2.2.1 _ (by omega), hlt]
  refine ⟨fun _ => ⟨fun e => absurd e (by omega), fun _ => ⟨n_in (by omega) (by decide), ?_⟩⟩, fun e => absurd h0 e⟩
  unfold yV
  rw [yov_I (by decide)]
  exact k _ (R.pop 1)
theorem c3v_push {F : zm → Prop} (R : nC adr g0 I A v) (x : Nat) (h1 : nHi v < 16) (k : ∀ I' A', nC adr g0 I' A' (nPush x v) → F (yV w I' A')) : zGo d m_X3_push 0 [.ref 1015, .int (Int32.ofNat x)] [] (yz (yV w I A)) (zKv F) := by
  have r3 : yI (yV w I A) 1015 1 = Int32.ofNat (nHi v) := R.2.2.1
  refine B_X3_push_v_0 _ ?_
  rw [r3, n_neg (by omega), n_lit 16, n_lt (by omega) (by decide), n_cl (by omega), show (Int32.ofNat (nHi v) + 1 : Int32) = Int32.ofNat (nHi v + 1) from n_add _ 1]
  refine ⟨fun e => e.elim, fun _ => ⟨fun _ => ⟨n_in h1 (by decide), ?_⟩, fun e => absurd h1 e⟩⟩
  unfold yV
  rw [yov_A (by decide), yov_I (by decide)]
  exact k _ _ (R.push x)
theorem c3v_top {F : Int32 → zm → Prop} (R : nC adr g0 I A v) (h0 : 0 < nHi v) (h1 : nHi v ≤ 16) (k : F (Int32.ofNat (nStk v (nHi v - 1))) (yV w I A)) : zGo d m_X3_top 0 [.ref 1015] [] (yz (yV w I A)) (zKi F) := by
  have r3 : yI (yV w I A) 1015 1 = Int32.ofNat (nHi v) := R.2.2.1
  refine B_X3_top_v_0 ?_
  have hn1 : (Int32.ofNat (nHi v) - 1 : Int32) = Int32.ofNat (nHi v - 1) := n_sub (a := nHi v) (b := 1) (by omega)
  have hlt : (0 < Int32.ofNat (nHi v)) = (0 < nHi v) := n_lt (a := 0) (by decide) (by omega)
  rw [r3, hn1, n_lit 16, n_lt (by decide) (by omega), n_cl (by omega), show yA (yV w I A) 1016 = A 1016 from rfl, R.2.2.2.2.2.2.2.1 _ (by omega), hlt]
  exact ⟨fun _ => ⟨fun e => absurd e (by omega), fun _ => ⟨n_in (by omega) (by decide), k⟩⟩, fun e => absurd h0 e⟩
theorem c3v_swap {F : zm → Prop} (R : nC adr g0 I A v) (h0 : 2 ≤ nHi v) (h1 : nHi v ≤ 16) (k : ∀ I' A', nC adr g0 I' A' (nPush (nStk v (nHi v - 2)) (nPush (nStk v (nHi v - 1)) (nPop 2 v))) → F (yV w I' A')) : zGo d m_X3_swap 0 [.ref 1015, zJ] [] (yz (yV w I A)) (zKv F) := by
  have r3 : yI (yV w I A) 1015 1 = Int32.ofNat (nHi v) := R.2.2.1
  have i3 : I 1015 1 = Int32.ofNat (nHi v) := R.2.2.1
  refine B_X3_swap_v_0 ?_
  have hn1 : (Int32.ofNat (nHi v) - 1 : Int32) = Int32.ofNat (nHi v - 1) := n_sub (a := nHi v) (b := 1) (by omega)
  have hn2 : (Int32.ofNat (nHi v) - 2 : Int32) = Int32.ofNat (nHi v - 2) := n_sub (a := nHi v) (b := 2) (by omega)
  rw [r3, hn1, hn2, n_lit 2, n_lit 16, n_lt (a := nHi v) (b := 2) (by omega) (by decide), n_lt (a := 16) (b := nHi v) (by decide) (by omega), n_cl (n := nHi v - 1) (by omega), n_cl (n := nHi v - 2) (by omega), show yA (yV w I A) 1016 = A 1016 from rfl, R.2.2.2.2.2.2.2.1 (nHi v - 1) (by omega), R.2.2.2.2.2.2.2.1 (nHi v - 2) (by omega)]
  refine ⟨fun e => absurd e (by omega), fun _ => ⟨fun e => absurd e (by omega), fun _ => ⟨n_in (by omega) (by decide), n_in (by omega) (by decide), n_in (by omega) (by decide), n_in (by omega) (by decide), ?_⟩⟩⟩
  have eI : y2 (y2 (y2 I 1015 1 (Int32.ofNat (nHi v - 2))) 1015 1 (Int32.ofNat (nHi v - 2 + 1))) 1015 1 (Int32.ofNat (nHi v - 2 + 1 + 1)) = I := by
    rw [y2_over, y2_over, show nHi v - 2 + 1 + 1 = nHi v from by omega, ← i3, y2_id]
  have eA : ∀ a b : Int32, y1 (y1 A 1016 (upd (A 1016) (nHi v - 2) a)) 1016 (upd (y1 A 1016 (upd (A 1016) (nHi v - 2) a) 1016) (nHi v - 2 + 1) b) = y1 (y1 A 1016 (upd (A 1016) (nHi v - 1) b)) 1016 (upd (y1 A 1016 (upd (A 1016) (nHi v - 1) b) 1016) (nHi v - 2) a) := by
    intro a b
    rw [y1_over, y1_over, y1_same, y1_same, show nHi v - 2 + 1 = nHi v - 1 from by omega, upd_comm (A 1016) a b (show nHi v - 1 ≠ nHi v - 2 by omega)]
  have R2 : nC adr g0 (y2 (y2 (y2 I 1015 1 (Int32.ofNat (nHi v - 2))) 1015 1 (Int32.ofNat (nHi v - 2 + 1))) 1015 1 (Int32.ofNat (nHi v - 2 + 1 + 1))) (y1 (y1 A 1016 (upd (A 1016) (nHi v - 2) (Int32.ofNat (nStk v (nHi v - 1))))) 1016 (upd (y1 A 1016 (upd (A 1016) (nHi v - 2) (Int32.ofNat (nStk v (nHi v - 1)))) 1016) (nHi v - 2 + 1) (Int32.ofNat (nStk v (nHi v - 2))))) (nPush (nStk v (nHi v - 2)) (nPush (nStk v (nHi v - 1)) (nPop 2 v))) := ((R.pop 2).push (nStk v (nHi v - 1))).push (nStk v (nHi v - 2))
  rw [eI, eA] at R2
  unfold yV
  rw [yov_A (by decide), yov_A (by decide)]
  exact k _ _ R2
end VAL
