/-! the values of a path: pure. A value is a number: 0..15 locals, 16..31 the stack at first, from 32 on what steps made (OP, left, right) -/
/-- count, count at the last poke, height, guards, new ones, folded; locals, stack, places; what made a value; guarded ones; the guards' steps -/
abbrev nv : Type := Nat × Nat × Nat × Nat × Nat × Nat × (Nat → Nat) × (Nat → Nat) × (Nat → Option Nat) × (Nat → Nat × Int32 × Int32) × (Nat → Bool) × (Nat → Nat)
def nN (v : nv) : Nat := v.1
def nPk (v : nv) : Nat := v.2.1
def nHi (v : nv) : Nat := v.2.2.1
def nGs (v : nv) : Nat := v.2.2.2.1
def nNw (v : nv) : Nat := v.2.2.2.2.1
def nFo (v : nv) : Nat := v.2.2.2.2.2.1
def nLoc (v : nv) : Nat → Nat := v.2.2.2.2.2.2.1
def nStk (v : nv) : Nat → Nat := v.2.2.2.2.2.2.2.1
def nPl (v : nv) : Nat → Option Nat := v.2.2.2.2.2.2.2.2.1
def nDf (v : nv) : Nat → Nat × Int32 × Int32 := v.2.2.2.2.2.2.2.2.2.1
def nGd (v : nv) : Nat → Bool := v.2.2.2.2.2.2.2.2.2.2.1
def nGa (v : nv) : Nat → Nat := v.2.2.2.2.2.2.2.2.2.2.2
def nSet {α : Type} (f : Nat → α) (i : Nat) (x : α) : Nat → α := fun j => if j = i then x else f j
theorem nSet_same {α : Type} (f : Nat → α) (i : Nat) (x : α) : nSet f i x i = x := by unfold nSet; rw [if_pos rfl]
theorem nSet_ne {α : Type} (f : Nat → α) {i j : Nat} (x : α) (h : j ≠ i) : nSet f i x j = f j := by unfold nSet; rw [if_neg h]
def nPush (x : Nat) (v : nv) : nv := (nN v, nPk v, nHi v + 1, nGs v, nNw v, nFo v, nLoc v, nSet (nStk v) (nHi v) x, nPl v, nDf v, nGd v, nGa v)
def nPop (k : Nat) (v : nv) : nv := (nN v, nPk v, nHi v - k, nGs v, nNw v, nFo v, nLoc v, nStk v, nPl v, nDf v, nGd v, nGa v)
def nMake (o : Nat) (l r : Int32) (v : nv) : nv := (nN v + 1, nPk v, nHi v, nGs v, nNw v, nFo v, nLoc v, nStk v, nPl v, nSet (nDf v) (nN v) (o, l, r), nGd v, nGa v)
def nCount (v : nv) : nv := (nN v, nPk v, nHi v, nGs v, nNw v + 1, nFo v, nLoc v, nStk v, nPl v, nDf v, nGd v, nGa v)
def nFold (v : nv) : nv := (nN v, nPk v, nHi v, nGs v, nNw v, nFo v + 1, nLoc v, nStk v, nPl v, nDf v, nGd v, nGa v)
def nStore (i x : Nat) (v : nv) : nv := (nN v, nPk v, nHi v, nGs v, nNw v, nFo v, nSet (nLoc v) i x, nStk v, nPl v, nDf v, nGd v, nGa v)
def nPlace (i x : Nat) (v : nv) : nv := (nN v, nPk v, nHi v, nGs v, nNw v, nFo v, nLoc v, nStk v, nSet (nPl v) i (some x), nDf v, nGd v, nGa v)
def nClear (v : nv) : nv := (nN v, nPk v, nHi v, nGs v, nNw v, nFo v, nLoc v, nStk v, (fun _ => none), nDf v, nGd v, nGa v)
def nMark (v : nv) : nv := (nN v, nN v, nHi v, nGs v, nNw v, nFo v, nLoc v, nStk v, nPl v, nDf v, nGd v, nGa v)
def nAsk (x k : Nat) (v : nv) : nv := (nN v, nPk v, nHi v, nGs v + 1, nNw v, nFo v, nLoc v, nStk v, nPl v, nDf v, nSet (nGd v) x true, nSet (nGa v) (nGs v) k)
/-- a value that is a constant, and its number -/
def nCon (v : nv) (x : Nat) : Bool := Nat.ble 32 x && decide ((nDf v x).1 = 1)
def nNum (v : nv) (x : Nat) : Int32 := (nDf v x).2.1
def nLook (v : nv) (o : Nat) (l r : Int32) (fr : Nat) : Option Nat := vfind (fun i => decide (nDf v i = (o, l, r))) (nN v - fr) fr
def nConst (c : Int32) (v : nv) : Nat × nv := match nLook v 1 c (-1) 32 with
  | some i => (i, v)
  | none => (nN v, nMake 1 c (-1) v)
def nOp (o : Nat) (l r : Int32) (fr : Nat) (v : nv) : Nat × nv := match nLook v o l r fr with
  | some i => (i, v)
  | none => (nN v, nCount (nMake o l r v))
def nGuard (x k : Nat) (v : nv) : nv := if nCon v x = true ∨ nGd v x = true then v else nAsk x k v
def nPut (r : Nat × nv) : nv := nPush r.1 r.2
def nWork2 (o k : Nat) (v : nv) : nv :=
  (fun l r u => if nCon u l = true ∧ nCon u r = true then nPut (nConst (reck o (nNum u l) (nNum u r)) (nFold u)) else nPut (nOp o (Int32.ofNat l) (Int32.ofNat r) 32 u))
    (nStk v (nHi v - 2)) (nStk v (nHi v - 1)) (if o = 7 ∨ o = 8 then nGuard (nStk v (nHi v - 1)) k (nPop 2 v) else nPop 2 v)
def nWork1 (o : Nat) (v : nv) : nv :=
  (fun l u => if nCon u l = true then nPut (nConst (reck o (nNum u l) 0) (nFold u)) else nPut (nOp o (Int32.ofNat l) (-1) 32 u))
    (nStk v (nHi v - 1)) (nPop 1 v)
def nPeek (v : nv) : nv :=
  (fun p u => if nCon u p = true then (match nPl u (apl (nNum u p)) with
      | some i => nPush i u
      | none => nPush (nN u) (nPlace (apl (nNum u p)) (nN u) (nCount (nMake 25 (Int32.ofNat p) (-1) u)))) else nPut (nOp 25 (Int32.ofNat p) (-1) (nPk u) u))
    (nStk v (nHi v - 1)) (nPop 1 v)
def nPoke (v : nv) : nv :=
  (fun p x u => if nCon u p = true then nPlace (apl (nNum u p)) x u else nClear u) (nStk v (nHi v - 2)) (nStk v (nHi v - 1)) (nMark (nPop 2 v))
def nStep (cd : Nat → Int32) (k p : Nat) (v : nv) : nv :=
  if 4 ≤ aop cd p ∧ aop cd p ≤ 15 then nWork2 (aop cd p) k v else match aop cd p with
  | 1 => nPut (nConst (aarg cd p) v)
  | 2 => nPush (nLoc v (aarg cd p).toNatClampNeg) v
  | 3 => nStore (aarg cd p).toNatClampNeg (nStk v (nHi v - 1)) (nPop 1 v)
  | 16 => nWork1 16 v
  | 17 => nWork1 17 v
  | 18 => nPush (nStk v (nHi v - 1)) v
  | 19 => nPush (nStk v (nHi v - 2)) (nPush (nStk v (nHi v - 1)) (nPop 2 v))
  | 20 => nPop 1 v
  | 22 => nGuard (nStk v (nHi v - 1)) k (nPop 1 v)
  | 23 => nGuard (nStk v (nHi v - 1)) k (nPop 1 v)
  | 24 => nPop 1 v
  | 25 => nPeek v
  | 26 => nPoke v
  | _ => v
def nInit (h : Nat) : nv := (32, 32, h, 0, 0, 0, (fun i => i), (fun i => 16 + i), (fun _ => none), (fun _ => (0, 0, 0)), (fun _ => false), (fun _ => 0))
def nRun (cd : Nat → Int32) (ad : Nat → Nat) : Nat → Nat → nv → nv
  | 0, _, v => v
  | j + 1, k, v => nRun cd ad j (k + 1) (nStep cd k (ad k) v)
/-- no division by a constant 0 comes up -/
def nFine (cd : Nat → Int32) (p : Nat) (v : nv) : Prop := (aop cd p = 7 ∨ aop cd p = 8) → nCon v (nStk v (nHi v - 1)) = true → nCon v (nStk v (nHi v - 2)) = true → ¬ nNum v (nStk v (nHi v - 1)) = 0
/-- what is always so: all that is named is there -/
def nOk (v : nv) : Prop := 32 ≤ nN v ∧ 32 ≤ nPk v ∧ nPk v ≤ nN v ∧ nHi v ≤ 16 ∧ (∀ i, i < 16 → nLoc v i < nN v) ∧ (∀ i, i < nHi v → nStk v i < nN v) ∧ (∀ i x, nPl v i = some x → x < nN v)
theorem nInit_ok {h : Nat} (hh : h ≤ 16) : nOk (nInit h) := ⟨Nat.le_refl 32, Nat.le_refl 32, Nat.le_refl 32, hh, fun i hi => by show i < 32; omega, fun i hi => by show 16 + i < 32; have hi : i < h := hi; omega, fun i x h => by cases h⟩
theorem nOk.push {v : nv} (h : nOk v) {x : Nat} (hx : x < nN v) (hh : nHi v < 16) : nOk (nPush x v) := by
  obtain ⟨h1, h2, h3, h4, h5, h6, h7⟩ := h
  refine ⟨h1, h2, h3, hh, h5, fun i hi => ?_, h7⟩
  show nSet (nStk v) (nHi v) x i < nN v
  have hi : i < nHi v + 1 := hi
  by_cases e : i = nHi v
  · rw [e, nSet_same]; exact hx
  · rw [nSet_ne _ _ e]; exact h6 i (by omega)
theorem nOk.pop {v : nv} (h : nOk v) (k : Nat) : nOk (nPop k v) := by
  obtain ⟨h1, h2, h3, h4, h5, h6, h7⟩ := h
  exact ⟨h1, h2, h3, by show nHi v - k ≤ 16; omega, h5, fun i hi => h6 i (by have hi : i < nHi v - k := hi; omega), h7⟩
theorem nOk.make {v : nv} (h : nOk v) (o : Nat) (l r : Int32) : nOk (nMake o l r v) := by
  obtain ⟨h1, h2, h3, h4, h5, h6, h7⟩ := h
  exact ⟨by show 32 ≤ nN v + 1; omega, h2, by show nPk v ≤ nN v + 1; omega, h4, fun i hi => Nat.lt_succ_of_lt (h5 i hi), fun i hi => Nat.lt_succ_of_lt (h6 i hi), fun i x hx => Nat.lt_succ_of_lt (h7 i x hx)⟩
theorem nOk.count {v : nv} (h : nOk v) : nOk (nCount v) := h
theorem nOk.fold {v : nv} (h : nOk v) : nOk (nFold v) := h
theorem nOk.store {v : nv} (h : nOk v) {i x : Nat} (hx : x < nN v) : nOk (nStore i x v) := by
  obtain ⟨h1, h2, h3, h4, h5, h6, h7⟩ := h
  refine ⟨h1, h2, h3, h4, fun j hj => ?_, h6, h7⟩
  show nSet (nLoc v) i x j < nN v
  by_cases e : j = i
  · rw [e, nSet_same]; exact hx
  · rw [nSet_ne _ _ e]; exact h5 j hj
theorem nOk.place {v : nv} (h : nOk v) {i x : Nat} (hx : x < nN v) : nOk (nPlace i x v) := by
  obtain ⟨h1, h2, h3, h4, h5, h6, h7⟩ := h
  refine ⟨h1, h2, h3, h4, h5, h6, fun j y hj => ?_⟩
  have hj : nSet (nPl v) i (some x) j = some y := hj
  show y < nN v
  by_cases e : j = i
  · rw [e, nSet_same] at hj; cases hj; exact hx
  · rw [nSet_ne _ _ e] at hj; exact h7 j y hj
theorem nOk.clear {v : nv} (h : nOk v) : nOk (nClear v) := ⟨h.1, h.2.1, h.2.2.1, h.2.2.2.1, h.2.2.2.2.1, h.2.2.2.2.2.1, fun i x hx => by cases hx⟩
theorem nOk.mark {v : nv} (h : nOk v) : nOk (nMark v) := ⟨h.1, h.1, Nat.le_refl _, h.2.2.2.1, h.2.2.2.2.1, h.2.2.2.2.2.1, h.2.2.2.2.2.2⟩
theorem nOk.guard {v : nv} (h : nOk v) (x k : Nat) : nOk (nGuard x k v) := by
  unfold nGuard
  split
  · exact h
  · exact h
theorem nLook_lt {v : nv} {o : Nat} {l r : Int32} {fr i : Nat} (h : nLook v o l r fr = some i) : fr ≤ i ∧ i < nN v ∧ nDf v i = (o, l, r) := by
  obtain ⟨h1, h2, h3, -⟩ := vfind_some h
  exact ⟨h1, by omega, of_decide_eq_true h3⟩
theorem nConst_ok {v : nv} (h : nOk v) (c : Int32) : nOk (nConst c v).2 ∧ (nConst c v).1 < nN (nConst c v).2 ∧ nHi (nConst c v).2 = nHi v ∧ nN v ≤ nN (nConst c v).2 ∧ nN (nConst c v).2 ≤ nN v + 1 := by
  unfold nConst
  cases hl : nLook v 1 c (-1) 32 with
  | some i => exact ⟨h, (nLook_lt hl).2.1, rfl, Nat.le_refl _, Nat.le_succ _⟩
  | none => exact ⟨h.make _ _ _, Nat.lt_succ_self _, rfl, Nat.le_succ _, Nat.le_refl _⟩
theorem nOp_ok {v : nv} (h : nOk v) (o : Nat) (l r : Int32) (fr : Nat) : nOk (nOp o l r fr v).2 ∧ (nOp o l r fr v).1 < nN (nOp o l r fr v).2 ∧ nHi (nOp o l r fr v).2 = nHi v ∧ nN v ≤ nN (nOp o l r fr v).2 ∧ nN (nOp o l r fr v).2 ≤ nN v + 1 := by
  unfold nOp
  cases hl : nLook v o l r fr with
  | some i => exact ⟨h, (nLook_lt hl).2.1, rfl, Nat.le_refl _, Nat.le_succ _⟩
  | none => exact ⟨(h.make _ _ _).count, Nat.lt_succ_self _, rfl, Nat.le_succ _, Nat.le_refl _⟩
theorem nGuard_hi (x k : Nat) (v : nv) : nHi (nGuard x k v) = nHi v ∧ nN (nGuard x k v) = nN v ∧ nStk (nGuard x k v) = nStk v ∧ nDf (nGuard x k v) = nDf v ∧ nLoc (nGuard x k v) = nLoc v ∧ nPl (nGuard x k v) = nPl v ∧ nPk (nGuard x k v) = nPk v := by
  unfold nGuard
  split <;> exact ⟨rfl, rfl, rfl, rfl, rfl, rfl, rfl⟩
