/-! the model finds the values: its numbers for them -/
def mSI (b : Nat) : Bool := Nat.beq b 51 || Nat.beq b 52 || Nat.beq b 53 || Nat.beq b 55 || Nat.beq b 61 || Nat.beq b 62 || Nat.beq b 68
def mSA (p : Nat) : Bool := Nat.ble 1063 p && Nat.ble p 1075
def sov (s : ms) (I : Nat → Int32) (A : Nat → Nat → Int32) : ms := ((fun b => bif mSI b then I b else sI s b), sL s, (fun p => bif mSA p then A p else sA s p))
def yM (c : zm) (s : ms) (I : Nat → Int32) (A : Nat → Nat → Int32) : zm := put c (sov s I A)
theorem sov_id (s : ms) : s = sov s (sI s) (sA s) := by
  have e1 : (fun b => bif mSI b then sI s b else sI s b) = sI s := by
    funext b
    cases mSI b <;> rfl
  have e2 : (fun p => bif mSA p then sA s p else sA s p) = sA s := by
    funext p
    cases mSA p <;> rfl
  unfold sov
  rw [e1, e2]
  rfl
theorem yM_I {c : zm} {s : ms} {I : Nat → Int32} {A : Nat → Nat → Int32} {b : Nat} {x : Int32} (h : mSI b = true) : yuI (yM c s I A) 1031 b x = yM c s (y1 I b x) A := by
  unfold yM
  rw [p_I]
  refine congrArg (put c) ?_
  unfold tI sov
  refine congrArg (fun f : Nat → Int32 => ((f, sL s, (fun p => bif mSA p then A p else sA s p)) : ms)) ?_
  funext q
  show y1 (fun b => bif mSI b then I b else sI s b) b x q = _
  by_cases e : q = b
  · subst e
    rw [y1_same, y1_same, h]
    rfl
  · rw [y1_ne _ _ e, y1_ne _ _ e]
theorem mSA_r {p : Nat} (h : mSA p = true) : yrM p = true := by
  unfold mSA at h
  rw [Bool.and_eq_true] at h
  unfold yrM
  rw [Bool.and_eq_true]
  have h1 := Nat.le_of_ble_eq_true h.1
  have h2 := Nat.le_of_ble_eq_true h.2
  exact ⟨Nat.ble_eq_true_of_le (by omega), Nat.ble_eq_true_of_le (by omega)⟩
theorem yM_A {c : zm} {s : ms} {I : Nat → Int32} {A : Nat → Nat → Int32} {p i : Nat} {x : Int32} (h : mSA p = true) : yuA (yM c s I A) p i x = yM c s I (y1 A p (upd (A p) i x)) := by
  unfold yM
  rw [p_A _ _ _ _ _ (mSA_r h)]
  have e0 : sA (sov s I A) p = A p := by
    show (bif mSA p then A p else sA s p) = A p
    rw [h]
    rfl
  rw [e0]
  refine congrArg (put c) ?_
  unfold tA sov
  refine congrArg (fun f : Nat → Nat → Int32 => (((fun b => bif mSI b then I b else sI s b), sL s, f) : ms)) ?_
  funext q
  show y1 (fun p => bif mSA p then A p else sA s p) p (upd (A p) i x) q = _
  by_cases e : q = p
  · subst e
    rw [y1_same, y1_same, h]
    rfl
  · rw [y1_ne _ _ e, y1_ne _ _ e]
/-- the model's number of a value -/
def nF (fr x : Nat) : Nat := if x < 32 then x else x - (16 - fr)
/-- a value that there can be -/
def nVd (fr : Nat) (v : nv) (x : Nat) : Prop := x < nN v ∧ (x < 16 + fr ∨ 32 ≤ x)
theorem nF_inj {fr x y : Nat} (hf : fr ≤ 16) (hx : x < 16 + fr ∨ 32 ≤ x) (hy : y < 16 + fr ∨ 32 ≤ y) (h : nF fr x = nF fr y) : x = y := by
  unfold nF at h
  by_cases h1 : x < 32
  · rw [if_pos h1] at h
    by_cases h2 : y < 32
    · rw [if_pos h2] at h
      exact h
    · rw [if_neg h2] at h
      omega
  · rw [if_neg h1] at h
    by_cases h2 : y < 32
    · rw [if_pos h2] at h
      omega
    · rw [if_neg h2] at h
      omega
theorem nF_le {fr x : Nat} : nF fr x ≤ x := by
  unfold nF
  split <;> omega
theorem nF_lt {fr x n : Nat} (hf : fr ≤ 16) (hn : 32 ≤ n) (hx : x < n) (hv : x < 16 + fr ∨ 32 ≤ x) : nF fr x < nF fr n := by
  unfold nF
  rw [if_neg (by omega : ¬ n < 32)]
  split <;> omega
theorem nF_succ {fr n : Nat} (hf : fr ≤ 16) (hn : 32 ≤ n) : nF fr (n + 1) = nF fr n + 1 := by
  unfold nF
  rw [if_neg (by omega), if_neg (by omega)]
  omega
theorem nF_sur {fr k n : Nat} (hf : fr ≤ 16) (hn : 32 ≤ n) (hk : k < nF fr n) : ∃ x, x < n ∧ (x < 16 + fr ∨ 32 ≤ x) ∧ nF fr x = k := by
  unfold nF at hk
  rw [if_neg (by omega)] at hk
  by_cases h : k < 16 + fr
  · exact ⟨k, by omega, Or.inl h, by unfold nF; rw [if_pos (by omega)]⟩
  · refine ⟨k + (16 - fr), by omega, Or.inr (by omega), ?_⟩
    unfold nF
    rw [if_neg (by omega)]
    omega
/-- what is so of the values, whatever stands for them -/
def nW (fr : Nat) (v : nv) : Prop := nOk v ∧ (∀ i, i < 16 → nVd fr v (nLoc v i)) ∧ (∀ i, i < nHi v → nVd fr v (nStk v i)) ∧ (∀ i x, nPl v i = some x → nVd fr v x) ∧ (∀ x, nN v ≤ x → nGd v x = false) ∧
  (∀ x, 32 ≤ x → x < nN v → ((nDf v x).1 = 1 ∧ (nDf v x).2.2 = -1) ∨ (∃ l r, 4 ≤ (nDf v x).1 ∧ (nDf v x).1 ≤ 15 ∧ nVd fr v l ∧ nVd fr v r ∧ (nDf v x).2 = (Int32.ofNat l, Int32.ofNat r)) ∨ (∃ l, ((nDf v x).1 = 16 ∨ (nDf v x).1 = 17) ∧ nVd fr v l ∧ (nDf v x).2 = (Int32.ofNat l, -1)) ∨ (∃ p, (nDf v x).1 = 25 ∧ nVd fr v p ∧ (nDf v x).2 = (Int32.ofNat p, -1))) ∧
  (∀ x y, 32 ≤ x → x < nN v → 32 ≤ y → y < nN v → ¬ (nDf v x).1 = 25 → nDf v x = nDf v y → x = y) ∧
  (∀ x y p, nPk v ≤ x → x < nN v → nPk v ≤ y → y < nN v → nVd fr v p → nCon v p = false → nDf v x = (25, Int32.ofNat p, -1) → nDf v x = nDf v y → x = y)
theorem nVd.more {fr : Nat} {v v' : nv} {x : Nat} (h : nVd fr v x) (hn : nN v ≤ nN v') : nVd fr v' x := ⟨Nat.lt_of_lt_of_le h.1 hn, h.2⟩
theorem nInit_W {h : Nat} (hh : h ≤ 16) : nW h (nInit h) := by
  refine ⟨nInit_ok hh, fun i hi => ⟨by show i < 32; omega, Or.inl (by show i < 16 + h; omega)⟩, fun i hi => ⟨by show 16 + i < 32; have hi : i < h := hi; omega, Or.inl (by show 16 + i < 16 + h; have hi : i < h := hi; omega)⟩, fun i x (hx : (none : Option Nat) = some x) => (by cases hx), fun x _ => rfl, fun x h1 h2 => absurd h2 (by show ¬ x < 32; omega), fun x y h1 h2 => absurd h2 (by show ¬ x < 32; omega), fun x y p h1 h2 => absurd h2 (by have h1 : 32 ≤ x := h1; show ¬ x < 32; omega)⟩
section NW
variable {fr : Nat} {v : nv}
theorem nW.push (W : nW fr v) {x : Nat} (hx : nVd fr v x) (hh : nHi v < 16) : nW fr (nPush x v) := by
  obtain ⟨w1, w2, w3, w4, w5, w6, w7, w8⟩ := W
  refine ⟨w1.push hx.1 hh, w2, fun i hi => ?_, w4, w5, w6, w7, w8⟩
  have hi : i < nHi v + 1 := hi
  show nVd fr v (nSet (nStk v) (nHi v) x i)
  by_cases e : i = nHi v
  · rw [e, nSet_same]; exact hx
  · rw [nSet_ne _ _ e]; exact w3 i (by omega)
theorem nW.pop (W : nW fr v) (k : Nat) : nW fr (nPop k v) := by
  obtain ⟨w1, w2, w3, w4, w5, w6, w7, w8⟩ := W
  exact ⟨w1.pop k, w2, fun i hi => w3 i (by have hi : i < nHi v - k := hi; omega), w4, w5, w6, w7, w8⟩
theorem nW.fold (W : nW fr v) : nW fr (nFold v) := W
theorem nW.count (W : nW fr v) : nW fr (nCount v) := W
theorem nW.store (W : nW fr v) {i x : Nat} (hx : nVd fr v x) : nW fr (nStore i x v) := by
  obtain ⟨w1, w2, w3, w4, w5, w6, w7, w8⟩ := W
  refine ⟨w1.store hx.1, fun j hj => ?_, w3, w4, w5, w6, w7, w8⟩
  show nVd fr v (nSet (nLoc v) i x j)
  by_cases e : j = i
  · rw [e, nSet_same]; exact hx
  · rw [nSet_ne _ _ e]; exact w2 j hj
theorem nW.place (W : nW fr v) {i x : Nat} (hx : nVd fr v x) : nW fr (nPlace i x v) := by
  obtain ⟨w1, w2, w3, w4, w5, w6, w7, w8⟩ := W
  refine ⟨w1.place hx.1, w2, w3, fun j y hj => ?_, w5, w6, w7, w8⟩
  have hj : nSet (nPl v) i (some x) j = some y := hj
  show nVd fr v y
  by_cases e : j = i
  · rw [e, nSet_same] at hj; cases hj; exact hx
  · rw [nSet_ne _ _ e] at hj; exact w4 j y hj
theorem nW.clear (W : nW fr v) : nW fr (nClear v) := by
  obtain ⟨w1, w2, w3, w4, w5, w6, w7, w8⟩ := W
  exact ⟨w1.clear, w2, w3, fun j y (hj : (none : Option Nat) = some y) => (by cases hj), w5, w6, w7, w8⟩
theorem nW.mark (W : nW fr v) : nW fr (nMark v) := by
  obtain ⟨w1, w2, w3, w4, w5, w6, w7, w8⟩ := W
  exact ⟨w1.mark, w2, w3, w4, w5, w6, w7, fun x y p h1 h2 => absurd h2 (by have h1 : nN v ≤ x := h1; show ¬ x < nN v; omega)⟩
theorem nW.guard (W : nW fr v) {x : Nat} (hx : nVd fr v x) (k : Nat) : nW fr (nGuard x k v) := by
  obtain ⟨w1, w2, w3, w4, w5, w6, w7, w8⟩ := id W
  unfold nGuard
  split
  · exact W
  · refine ⟨w1, w2, w3, w4, fun y hy => ?_, w6, w7, w8⟩
    have hy : nN v ≤ y := hy
    show nSet (nGd v) x true y = false
    rw [nSet_ne _ _ (by have := hx.1; omega)]
    exact w5 y hy
/-- a new value of a kind that was not there -/
theorem nW.make (W : nW fr v) {o : Nat} {l r : Int32} (hk : (o = 1 ∧ r = -1) ∨ (∃ a b, 4 ≤ o ∧ o ≤ 15 ∧ nVd fr v a ∧ nVd fr v b ∧ (l, r) = (Int32.ofNat a, Int32.ofNat b)) ∨ (∃ a, (o = 16 ∨ o = 17) ∧ nVd fr v a ∧ (l, r) = (Int32.ofNat a, -1)) ∨ (∃ p, o = 25 ∧ nVd fr v p ∧ (l, r) = (Int32.ofNat p, -1)))
    (hnew : ¬ o = 25 → ∀ x, 32 ≤ x → x < nN v → ¬ nDf v x = (o, l, r)) (hnew2 : o = 25 → (∀ p, nVd fr v p → l = Int32.ofNat p → nCon v p = false → ∀ x, nPk v ≤ x → x < nN v → ¬ nDf v x = (25, Int32.ofNat p, -1))) (hn : nN v < 80) : nW fr (nMake o l r v) := by
  obtain ⟨w1, w2, w3, w4, w5, w6, w7, w8⟩ := W
  have h32 := w1.1
  have up : ∀ {x}, nVd fr v x → nVd fr (nMake o l r v) x := fun h => h.more (Nat.le_succ _)
  have hd : ∀ x, x ≠ nN v → nDf (nMake o l r v) x = nDf v x := fun x e => nSet_ne _ _ e
  have hdn : nDf (nMake o l r v) (nN v) = (o, l, r) := nSet_same _ _ _
  have hnn : nN (nMake o l r v) = nN v + 1 := rfl
  refine ⟨w1.make o l r, fun i hi => up (w2 i hi), fun i hi => up (w3 i hi), fun i x hx => up (w4 i x hx), fun x hx => w5 x (by have hx : nN v + 1 ≤ x := hx; omega), fun x h1 h2 => ?_, fun x y h1 h2 h3 h4 h5 h6 => ?_, fun x y p h1 h2 h3 h4 h5 h6 h7 h8 => ?_⟩
  · rw [hnn] at h2
    by_cases e : x = nN v
    · rw [e, hdn]
      rcases hk with ⟨k1, k2⟩ | ⟨a, b, k1, k2, k3, k4, k5⟩ | ⟨a, k1, k2, k3⟩ | ⟨p, k1, k2, k3⟩
      · exact Or.inl ⟨k1, k2⟩
      · exact Or.inr (Or.inl ⟨a, b, k1, k2, up k3, up k4, k5⟩)
      · exact Or.inr (Or.inr (Or.inl ⟨a, k1, up k2, k3⟩))
      · exact Or.inr (Or.inr (Or.inr ⟨p, k1, up k2, k3⟩))
    · rw [hd x e]
      rcases w6 x h1 (by omega) with k | ⟨a, b, k1, k2, k3, k4, k5⟩ | ⟨a, k1, k2, k3⟩ | ⟨p, k1, k2, k3⟩
      · exact Or.inl k
      · exact Or.inr (Or.inl ⟨a, b, k1, k2, up k3, up k4, k5⟩)
      · exact Or.inr (Or.inr (Or.inl ⟨a, k1, up k2, k3⟩))
      · exact Or.inr (Or.inr (Or.inr ⟨p, k1, up k2, k3⟩))
  · rw [hnn] at h2 h4
    by_cases e1 : x = nN v
    · by_cases e2 : y = nN v
      · omega
      · rw [e1, hdn, hd y e2] at h6
        rw [e1, hdn] at h5
        exact absurd h6.symm (hnew h5 y h3 (by omega))
    · by_cases e2 : y = nN v
      · rw [e2, hdn, hd x e1] at h6
        rw [hd x e1, h6] at h5
        exact absurd h6 (hnew h5 x h1 (by omega))
      · rw [hd x e1] at h5
        rw [hd x e1, hd y e2] at h6
        exact w7 x y h1 (by omega) h3 (by omega) h5 h6
  · rw [hnn] at h2 h4
    have h1 : nPk v ≤ x := h1
    have h3 : nPk v ≤ y := h3
    have pk32 := w1.2.1
    by_cases ep : p = nN v
    · -- a place that is the new value: nothing is named so
      exfalso
      have key : ∀ z, nPk v ≤ z → z < nN v + 1 → ¬ nDf (nMake o l r v) z = (25, Int32.ofNat p, -1) := by
        intro z z1 z2 z3
        by_cases e : z = nN v
        · rw [e, hdn] at z3
          rcases hk with ⟨k1, k2⟩ | ⟨a, b, k1, k2, k3, k4, k5⟩ | ⟨a, k1, k2, k3⟩ | ⟨a, k1, k2, k3⟩
          · have := congrArg (fun q => q.1) z3
            dsimp only at this
            omega
          · have := congrArg (fun q => q.1) z3
            dsimp only at this
            omega
          · have := congrArg (fun q => q.1) z3
            dsimp only at this
            omega
          · have q1 : l = Int32.ofNat p := congrArg (fun q => q.2.1) z3
            have q2 : l = Int32.ofNat a := congrArg (fun q => q.1) k3
            rw [q2, n_eq (by have := k2.1; omega) (by omega)] at q1
            have := k2.1
            omega
        · rw [hd z e] at z3
          rcases w6 z (by omega) (by omega) with ⟨k1, k2⟩ | ⟨a, b, k1, k2, k3, k4, k5⟩ | ⟨a, k1, k2, k3⟩ | ⟨a, k1, k2, k3⟩
          · rw [z3] at k1; cases k1
          · rw [z3] at k2; dsimp only at k2; omega
          · rw [z3] at k1; dsimp only at k1; omega
          · rw [z3] at k3
            have q1 : Int32.ofNat p = Int32.ofNat a := congrArg (fun q => q.1) k3
            rw [n_eq (by omega) (by have := k2.1; omega)] at q1
            have := k2.1
            omega
      exact key x h1 h2 h7
    · have hpv : nVd fr v p := ⟨by have := h5.1; rw [hnn] at this; omega, h5.2⟩
      have hcp : nCon v p = false := by
        unfold nCon at h6 ⊢
        rw [hd p ep] at h6
        exact h6
      by_cases e1 : x = nN v
      · by_cases e2 : y = nN v
        · omega
        · rw [e1, hdn] at h7 h8
          rw [hd y e2] at h8
          have ho : o = 25 := congrArg (fun q => q.1) h7
          have hl : l = Int32.ofNat p := congrArg (fun q => q.2.1) h7
          exact absurd (h8.symm.trans h7) (hnew2 ho p hpv hl hcp y h3 (by omega))
      · rw [hd x e1] at h7 h8
        by_cases e2 : y = nN v
        · rw [e2, hdn] at h8
          have h9 : (o, l, r) = (25, Int32.ofNat p, -1) := h8.symm.trans h7
          have ho : o = 25 := congrArg (fun q => q.1) h9
          have hl : l = Int32.ofNat p := congrArg (fun q => q.2.1) h9
          exact absurd h7 (hnew2 ho p hpv hl hcp x h1 (by omega))
        · rw [hd y e2] at h8
          exact w8 x y p h1 (by omega) h3 (by omega) hpv hcp h7 h8
end NW
