/-! what the model's rows hold of the values -/
def nM1 (fr : Nat) (I : Nat → Int32) (A : Nat → Nat → Int32) (v : nv) : Prop := I 55 = Int32.ofNat (nF fr (nN v)) ∧ I 61 = Int32.ofNat (nHi v) ∧ I 51 = Int32.ofNat (nGs v) ∧ I 52 = Int32.ofNat (nNw v) ∧ I 53 = Int32.ofNat (nFo v) ∧
  (∀ i, i < 16 → A 1067 i = Int32.ofNat (nF fr (nLoc v i))) ∧ (∀ i, i < nHi v → A 1068 i = Int32.ofNat (nF fr (nStk v i))) ∧ (∀ i, i < 32 → A 1073 i = vov ((nPl v i).map (nF fr))) ∧ (∀ k, k < nGs v → A 1063 k = Int32.ofNat (nGa v k))
def nM2 (fr : Nat) (A : Nat → Nat → Int32) (v : nv) : Prop := ∀ x, nVd fr v x → A 1064 (nF fr x) = (if nCon v x = true then 1 else 0) ∧ (nCon v x = true → A 1065 (nF fr x) = nNum v x) ∧ A 1066 (nF fr x) = (if nGd v x = true then 1 else 0)
def nOpd (fr : Nat) (v : nv) (c a : Int32) : Prop := (c = -1 ∧ a = -1) ∨ ∃ r, nVd fr v r ∧ c = Int32.ofNat r ∧ a = Int32.ofNat (nF fr r)
def nM3 (fr : Nat) (I : Nat → Int32) (A : Nat → Nat → Int32) (v : nv) : Prop := ∃ (mv : Nat → Nat) (mk : Nat), I 62 = Int32.ofNat mk ∧ mk ≤ nN v - 32 ∧
  (∀ k, k < mk → 32 ≤ mv k ∧ mv k < nN v ∧ 4 ≤ (nDf v (mv k)).1 ∧ (nDf v (mv k)).1 ≤ 17 ∧ A 1069 k = Int32.ofNat (nDf v (mv k)).1 ∧ nOpd fr v (nDf v (mv k)).2.1 (A 1070 k) ∧ nOpd fr v (nDf v (mv k)).2.2 (A 1071 k) ∧ A 1072 k = Int32.ofNat (nF fr (mv k))) ∧
  (∀ x, 32 ≤ x → x < nN v → 4 ≤ (nDf v x).1 → (nDf v x).1 ≤ 17 → ∃ k, k < mk ∧ mv k = x)
def nM4 (fr : Nat) (I : Nat → Int32) (A : Nat → Nat → Int32) (v : nv) : Prop := ∃ (pv : Nat → Nat) (pk : Nat), I 68 = Int32.ofNat pk ∧ pk ≤ nN v - 32 ∧
  (∀ k, k < pk → nPk v ≤ pv k ∧ pv k < nN v ∧ A 1075 k = Int32.ofNat (nF fr (pv k)) ∧ ∃ p, nVd fr v p ∧ nCon v p = false ∧ nDf v (pv k) = (25, Int32.ofNat p, -1) ∧ A 1074 k = Int32.ofNat (nF fr p)) ∧
  (∀ x p, nPk v ≤ x → x < nN v → nVd fr v p → nCon v p = false → nDf v x = (25, Int32.ofNat p, -1) → ∃ k, k < pk ∧ pv k = x)
def nM (fr : Nat) (I : Nat → Int32) (A : Nat → Nat → Int32) (v : nv) : Prop := nM1 fr I A v ∧ nM2 fr A v ∧ nM3 fr I A v ∧ nM4 fr I A v
section NM
variable {fr : Nat} {v : nv} {I : Nat → Int32} {A : Nat → Nat → Int32}
theorem nOpd_eq (hf : fr ≤ 16) (hn : nN v ≤ 80) {c a c' a' : Int32} (h : nOpd fr v c a) (h' : nOpd fr v c' a') : c = c' ↔ a = a' := by
  rcases h with ⟨h1, h2⟩ | ⟨r, h1, h2, h3⟩ <;> rcases h' with ⟨k1, k2⟩ | ⟨r', k1, k2, k3⟩
  · rw [h1, h2, k1, k2]
  · have b1 := k1.1
    have b2 : nF fr r' ≤ r' := nF_le
    rw [h1, h2, k2, k3]
    constructor
    · intro e
      have := e.symm
      rw [n_m1 (by omega)] at this
      exact this.elim
    · intro e
      have := e.symm
      rw [n_m1 (by omega)] at this
      exact this.elim
  · have b1 := h1.1
    have b2 : nF fr r ≤ r := nF_le
    rw [h2, h3, k1, k2]
    constructor
    · intro e
      rw [n_m1 (by omega)] at e
      exact e.elim
    · intro e
      rw [n_m1 (by omega)] at e
      exact e.elim
  · have b1 := h1.1
    have b2 : nF fr r ≤ r := nF_le
    have b3 := k1.1
    have b4 : nF fr r' ≤ r' := nF_le
    rw [h2, h3, k2, k3, n_eq (by omega) (by omega), n_eq (by omega) (by omega)]
    exact ⟨fun e => by rw [e], fun e => nF_inj hf h1.2 k1.2 e⟩
theorem nM.push (M : nM fr I A v) {x : Nat} {c : Int32} (hc : c = Int32.ofNat (nF fr x)) : nM fr (y1 I 61 (Int32.ofNat (nHi v + 1))) (y1 A 1068 (upd (A 1068) (nHi v) c)) (nPush x v) := by
  obtain ⟨⟨r1, r2, r3, r4, r5, r6, r7, r8, r9⟩, m2, m3, m4⟩ := M
  refine ⟨⟨r1, rfl, r3, r4, r5, r6, fun i hi => ?_, r8, r9⟩, m2, m3, m4⟩
  have hi : i < nHi v + 1 := hi
  show upd (A 1068) (nHi v) c i = Int32.ofNat (nF fr (nSet (nStk v) (nHi v) x i))
  by_cases e : i = nHi v
  · rw [e, upd_same, nSet_same]; exact hc
  · rw [upd_ne _ _ e, nSet_ne _ _ e]; exact r7 i (by omega)
theorem nM.pop (M : nM fr I A v) (k : Nat) : nM fr (y1 I 61 (Int32.ofNat (nHi v - k))) A (nPop k v) := by
  obtain ⟨⟨r1, r2, r3, r4, r5, r6, r7, r8, r9⟩, m2, m3, m4⟩ := M
  exact ⟨⟨r1, rfl, r3, r4, r5, r6, fun i hi => r7 i (by have hi : i < nHi v - k := hi; omega), r8, r9⟩, m2, m3, m4⟩
theorem nM.fold (M : nM fr I A v) : nM fr (y1 I 53 (Int32.ofNat (nFo v + 1))) A (nFold v) := by
  obtain ⟨⟨r1, r2, r3, r4, r5, r6, r7, r8, r9⟩, m2, m3, m4⟩ := M
  exact ⟨⟨r1, r2, r3, r4, rfl, r6, r7, r8, r9⟩, m2, m3, m4⟩
theorem nM.count (M : nM fr I A v) : nM fr (y1 I 52 (Int32.ofNat (nNw v + 1))) A (nCount v) := by
  obtain ⟨⟨r1, r2, r3, r4, r5, r6, r7, r8, r9⟩, m2, m3, m4⟩ := M
  exact ⟨⟨r1, r2, r3, rfl, r5, r6, r7, r8, r9⟩, m2, m3, m4⟩
theorem nM.store (M : nM fr I A v) (j : Nat) {x : Nat} {c : Int32} (hc : c = Int32.ofNat (nF fr x)) : nM fr I (y1 A 1067 (upd (A 1067) j c)) (nStore j x v) := by
  obtain ⟨⟨r1, r2, r3, r4, r5, r6, r7, r8, r9⟩, m2, m3, m4⟩ := M
  refine ⟨⟨r1, r2, r3, r4, r5, fun i hi => ?_, r7, r8, r9⟩, m2, m3, m4⟩
  show upd (A 1067) j c i = Int32.ofNat (nF fr (nSet (nLoc v) j x i))
  by_cases e : i = j
  · rw [e, upd_same, nSet_same]; exact hc
  · rw [upd_ne _ _ e, nSet_ne _ _ e]; exact r6 i hi
theorem nM.place (M : nM fr I A v) (j : Nat) {x : Nat} {c : Int32} (hc : c = Int32.ofNat (nF fr x)) : nM fr I (y1 A 1073 (upd (A 1073) j c)) (nPlace j x v) := by
  obtain ⟨⟨r1, r2, r3, r4, r5, r6, r7, r8, r9⟩, m2, m3, m4⟩ := M
  refine ⟨⟨r1, r2, r3, r4, r5, r6, r7, fun i hi => ?_, r9⟩, m2, m3, m4⟩
  show upd (A 1073) j c i = vov ((nSet (nPl v) j (some x) i).map (nF fr))
  by_cases e : i = j
  · rw [e, upd_same, nSet_same]; exact hc
  · rw [upd_ne _ _ e, nSet_ne _ _ e]; exact r8 i hi
theorem nM.clear (M : nM fr I A v) {f : Nat → Int32} (hf : ∀ i, i < 32 → f i = -1) : nM fr I (y1 A 1073 f) (nClear v) := by
  obtain ⟨⟨r1, r2, r3, r4, r5, r6, r7, r8, r9⟩, m2, m3, m4⟩ := M
  exact ⟨⟨r1, r2, r3, r4, r5, r6, r7, fun i hi => hf i hi, r9⟩, m2, m3, m4⟩
theorem nM.mark (M : nM fr I A v) : nM fr (y1 I 68 0) A (nMark v) := by
  obtain ⟨⟨r1, r2, r3, r4, r5, r6, r7, r8, r9⟩, m2, m3, m4⟩ := M
  exact ⟨⟨r1, r2, r3, r4, r5, r6, r7, r8, r9⟩, m2, m3, fun k => k, 0, rfl, Nat.zero_le _, fun k hk => absurd hk (Nat.not_lt_zero k), fun x p h1 h2 => absurd h2 (by have h1 : nN v ≤ x := h1; show ¬ x < nN v; omega)⟩
theorem nM.ask (M : nM fr I A v) (hf : fr ≤ 16) {x k : Nat} (hx : nVd fr v x) : nM fr (y1 I 51 (Int32.ofNat (nGs v + 1))) (y1 (y1 A 1066 (upd (A 1066) (nF fr x) 1)) 1063 (upd (A 1063) (nGs v) (Int32.ofNat k))) (nAsk x k v) := by
  obtain ⟨⟨r1, r2, r3, r4, r5, r6, r7, r8, r9⟩, m2, m3, m4⟩ := M
  refine ⟨⟨r1, r2, rfl, r4, r5, r6, r7, r8, fun j hj => ?_⟩, fun y hy => ?_, m3, m4⟩
  · have hj : j < nGs v + 1 := hj
    show upd (A 1063) (nGs v) (Int32.ofNat k) j = Int32.ofNat (nSet (nGa v) (nGs v) k j)
    by_cases e : j = nGs v
    · rw [e, upd_same, nSet_same]
    · rw [upd_ne _ _ e, nSet_ne _ _ e]; exact r9 j (by omega)
  · obtain ⟨q1, q2, q3⟩ := m2 y hy
    refine ⟨q1, q2, ?_⟩
    show upd (A 1066) (nF fr x) 1 (nF fr y) = (if nSet (nGd v) x true y = true then 1 else 0)
    by_cases e : y = x
    · rw [e, upd_same, nSet_same]
      rfl
    · rw [upd_ne _ _ (fun z => e (nF_inj hf hy.2 hx.2 z)), nSet_ne _ _ e]
      exact q3
/-- the rows behind value() -/
def mVal (fr : Nat) (v : nv) (A : Nat → Nat → Int32) : Nat → Nat → Int32 := y1 (y1 A 1064 (upd (A 1064) (nF fr (nN v)) 0)) 1066 (upd (A 1066) (nF fr (nN v)) 0)
theorem nCon_make {o : Nat} {l r : Int32} (x : Nat) (hx : x ≠ nN v) : nCon (nMake o l r v) x = nCon v x ∧ nNum (nMake o l r v) x = nNum v x := by
  have : nDf (nMake o l r v) x = nDf v x := nSet_ne _ _ hx
  unfold nCon nNum
  rw [this]
  exact ⟨rfl, rfl⟩
theorem nM2.make (W : nW fr v) (hf : fr ≤ 16) (m2 : nM2 fr A v) {o : Nat} {l r : Int32} {A' : Nat → Nat → Int32} (ha : ∀ q, q ≠ nF fr (nN v) → A' 1064 q = A 1064 q ∧ A' 1065 q = A 1065 q ∧ A' 1066 q = A 1066 q) (h1 : A' 1064 (nF fr (nN v)) = if o = 1 then 1 else 0) (h2 : o = 1 → A' 1065 (nF fr (nN v)) = l) (h3 : A' 1066 (nF fr (nN v)) = 0) : nM2 fr A' (nMake o l r v) := by
  intro x hx
  have h32 := W.1.1
  have hx1 : x < nN v + 1 := hx.1
  by_cases e : x = nN v
  · rw [e, h1, h3]
    have hd : nDf (nMake o l r v) (nN v) = (o, l, r) := nSet_same _ _ _
    have hc : nCon (nMake o l r v) (nN v) = decide (o = 1) := by
      unfold nCon
      rw [hd, Nat.ble_eq_true_of_le h32]
      rfl
    have hg : nGd (nMake o l r v) (nN v) = false := W.2.2.2.2.1 _ (Nat.le_refl _)
    rw [hc, hg]
    refine ⟨?_, fun q => ?_, rfl⟩
    · by_cases q : o = 1
      · rw [if_pos q, if_pos (decide_eq_true q)]
      · rw [if_neg q, if_neg (by rw [decide_eq_false q]; decide)]
    · have q := of_decide_eq_true q
      rw [h2 q]
      show l = (nDf (nMake o l r v) (nN v)).2.1
      rw [hd]
  · have hv : nVd fr v x := ⟨by omega, hx.2⟩
    obtain ⟨q1, q2, q3⟩ := m2 x hv
    have hne : nF fr x ≠ nF fr (nN v) := by
      have := nF_lt hf h32 hv.1 hv.2
      omega
    obtain ⟨a1, a2, a3⟩ := ha _ hne
    obtain ⟨c1, c2⟩ := nCon_make (o := o) (l := l) (r := r) x e
    rw [a1, a2, a3, c1, c2]
    exact ⟨q1, q2, q3⟩
theorem nOpd.more {v' : nv} {c a : Int32} (h : nOpd fr v c a) (hn : nN v ≤ nN v') : nOpd fr v' c a := by
  rcases h with h | ⟨r, h1, h2, h3⟩
  · exact Or.inl h
  · exact Or.inr ⟨r, h1.more hn, h2, h3⟩
/-- the made ones stay, if the new one is none of them -/
theorem nM3.keep (m3 : nM3 fr I A v) {o : Nat} {l r : Int32} {I' : Nat → Int32} {A' : Nat → Nat → Int32} (ho : ¬ (4 ≤ o ∧ o ≤ 17)) (hi : I' 62 = I 62) (h1 : A' 1069 = A 1069) (h2 : A' 1070 = A 1070) (h3 : A' 1071 = A 1071) (h4 : A' 1072 = A 1072) : nM3 fr I' A' (nMake o l r v) := by
  obtain ⟨mv, mk, q1, q2, q3, q4⟩ := m3
  refine ⟨mv, mk, by rw [hi]; exact q1, by show mk ≤ nN v + 1 - 32; omega, fun k hk => ?_, fun x x1 x2 x3 x4 => ?_⟩
  · obtain ⟨t1, t2, t3, t4, t5, t6, t7, t8⟩ := q3 k hk
    have hd : nDf (nMake o l r v) (mv k) = nDf v (mv k) := nSet_ne _ _ (by omega)
    rw [hd, h1, h2, h3, h4]
    exact ⟨t1, Nat.lt_succ_of_lt t2, t3, t4, t5, t6.more (Nat.le_succ _), t7.more (Nat.le_succ _), t8⟩
  · have x2 : x < nN v + 1 := x2
    by_cases e : x = nN v
    · have hd : nDf (nMake o l r v) (nN v) = (o, l, r) := nSet_same _ _ _
      rw [e, hd] at x3 x4
      exact absurd ⟨x3, x4⟩ ho
    · have hd : nDf (nMake o l r v) x = nDf v x := nSet_ne _ _ e
      rw [hd] at x3 x4
      exact q4 x x1 (by omega) x3 x4
theorem nM4.keep (m4 : nM4 fr I A v) (W : nW fr v) (hn : nN v < 80) {o : Nat} {l r : Int32} {I' : Nat → Int32} {A' : Nat → Nat → Int32} (ho : o = 25 → ∀ p, nVd fr v p → l = Int32.ofNat p → nCon v p = true) (hl : o = 25 → ∃ p, nVd fr v p ∧ l = Int32.ofNat p) (hi : I' 68 = I 68) (h1 : A' 1074 = A 1074) (h2 : A' 1075 = A 1075) : nM4 fr I' A' (nMake o l r v) := by
  obtain ⟨pv, pk, q1, q2, q3, q4⟩ := m4
  have h32 := W.1.1
  have hp32 := W.1.2.1
  refine ⟨pv, pk, by rw [hi]; exact q1, by show pk ≤ nN v + 1 - 32; omega, fun k hk => ?_, fun x p x1 x2 x3 x4 x5 => ?_⟩
  · obtain ⟨t1, t2, t3, p, t4, t5, t6, t7⟩ := q3 k hk
    have hd : nDf (nMake o l r v) (pv k) = nDf v (pv k) := nSet_ne _ _ (by omega)
    rw [hd, h1, h2]
    exact ⟨t1, Nat.lt_succ_of_lt t2, t3, p, t4.more (Nat.le_succ _), by rw [(nCon_make p (by have := t4.1; omega)).1]; exact t5, t6, t7⟩
  · have x2 : x < nN v + 1 := x2
    have x1 : nPk v ≤ x := x1
    by_cases e : x = nN v
    · have hd : nDf (nMake o l r v) (nN v) = (o, l, r) := nSet_same _ _ _
      rw [e, hd] at x5
      have e1 : o = 25 := congrArg (fun z => z.1) x5
      have e2 : l = Int32.ofNat p := congrArg (fun z => z.2.1) x5
      obtain ⟨p', p1, p2⟩ := hl e1
      rw [p2, n_eq (by have := p1.1; omega) (by have := x3.1; have : p < nN v + 1 := this; omega)] at e2
      subst e2
      have := ho e1 p' p1 p2
      rw [(nCon_make p' (by have := p1.1; omega)).1, this] at x4
      cases x4
    · have hd : nDf (nMake o l r v) x = nDf v x := nSet_ne _ _ e
      rw [hd] at x5
      by_cases ep : p = nN v
      · exfalso
        rcases W.2.2.2.2.2.1 x (by omega) (by omega) with ⟨k1, k2⟩ | ⟨a, b, k1, k2, k3, k4, k5⟩ | ⟨a, k1, k2, k3⟩ | ⟨a, k1, k2, k3⟩
        · rw [x5] at k1; cases k1
        · rw [x5] at k2; dsimp only at k2; omega
        · rw [x5] at k1; dsimp only at k1; omega
        · rw [x5] at k3
          have q1 : Int32.ofNat p = Int32.ofNat a := congrArg (fun q => q.1) k3
          have ha := k2.1
          rw [n_eq (by omega) (by omega)] at q1
          omega
      · have hp : nVd fr v p := ⟨by have := x3.1; have : p < nN v + 1 := this; omega, x3.2⟩
        exact q4 x p x1 (by omega) hp (by rw [(nCon_make p ep).1] at x4; exact x4) x5
end NM
