/-! new bridges, new traces: where they lie -/
theorem yT_mv {w w' : zm} {p : Nat} (h : yT w p) (hK : ∀ i, i < 10 → yK w' (p + i) = yK w (p + i)) (h0 : yF w' p = yF w p) (h1 : yF w' (p + 1) = yF w (p + 1)) : yT w' p := by
  obtain ⟨t1, t2, t3, t4, t5⟩ := h
  have t1' : 1077 ≤ p := t1
  refine ⟨t1, ?_, ?_, yP_mv t4 (fun i hi => ?_) h1, fun j hj => ?_⟩
  · rw [yk_hi t1'] at t2 ⊢
    rw [← t2]
    exact hK 0 (by decide)
  · rw [yR_hi t1'] at t3 ⊢
    rw [h0]
    exact t3
  · have := hK (1 + i) (by omega)
    rw [← Nat.add_assoc] at this
    exact this
  · obtain ⟨q1, q2⟩ := t5 j hj
    rw [yR_hi t1'] at q1 ⊢
    rw [yk_hi (by omega)] at q2 ⊢
    rw [h0, hK (j + 6) (by omega)]
    exact ⟨q1, q2⟩
theorem ext.T {w w' : zm} (E : ext w w') {p : Nat} (h : yT w p) (hz : p + 9 < ySz w) : yT w' p :=
  yT_mv h (fun i hi => (E (p + i) (by omega)).2.2.2.1) (E p (by omega)).2.2.2.2.1 (E (p + 1) (by omega)).2.2.2.2.1
theorem ext.P {w w' : zm} (E : ext w w') {p : Nat} (h : yP w p) (hz : p + 4 < ySz w) : yP w' p :=
  yP_mv h (fun i hi => (E (p + i) (by omega)).2.2.2.1) (E p (by omega)).2.2.2.2.1
/-- what a trace holds lies below n -/
theorem tHc_ext {cd : Nat → Int32} {I A I' A' : Nat → Nat → Int32} {Q Q' : Nat → Nat → Option Nat} {p a n : Nat} {T : tr} (h : tHc cd I A Q p a T) (hp : p + 9 < n) (hI : ∀ r, r < n → I' r = I r) (hA : ∀ r, r < n → A' r = A r) (hQ : ∀ j, j < tNb T → Q' (p + 9) j = Q (p + 9) j) (hq : ∀ j q, j < 4 → Q (p + 9) j = some q → q + 4 < n) : tHc cd I' A' Q' p a T := by
  obtain ⟨e1, e2, e3, e4, e5, e6, e7, e8⟩ := h
  unfold tHc
  rw [hI p (by omega), hA (p + 6) (by omega), hA (p + 7) (by omega), hA (p + 8) (by omega)]
  refine ⟨e1, e2, e3, e4, pHc_fr e5 (hI _ (by omega)) (hA _ (by omega)) (hA _ (by omega)) (hA _ (by omega)), e6, e7, fun j hj => ?_⟩
  obtain ⟨q, q1, q2⟩ := e8 j hj
  have := hq j q (by omega) q1
  exact ⟨q, by rw [hQ j hj]; exact q1, pHc_fr q2 (hI _ (by omega)) (hA _ (by omega)) (hA _ (by omega)) (hA _ (by omega))⟩
section NEWB
variable {w w1 : zm} {u : Nat × Nat} {X : xs}
theorem RCt.newB (R : RCt u w X) {a p : Nat} {T : tr} (ha : a < 200) (hT : xT X a = some T) (hp : yQ w 1023 a = some p) (hn : tNb T < 4) (hq : yQ w (p + 9) (tNb T) = none) (E : ext w w1) (s1 : ySz w1 = ySz w + 5) (s2 : ySl w1 = ySl w + 201) (P : yP w1 (ySz w)) : RCt u (yuQ w1 (p + 9) (tNb T) (some (ySz w))) X ∧ yT (yuQ w1 (p + 9) (tNb T) (some (ySz w))) p ∧ yQ (yuQ w1 (p + 9) (tNb T) (some (ySz w))) 1023 a = some p ∧ yQ (yuQ w1 (p + 9) (tNb T) (some (ySz w))) (p + 9) (tNb T) = some (ySz w) := by
  obtain ⟨nT, tp, loc, sc, O, r2, r3, r4, r5, r6, r7⟩ := R
  obtain ⟨t1, t2, i0, i1, i2, i3⟩ := O.T ha hp
  obtain ⟨o1, o2, o3, o4, o5, o6, o7, o8, o9⟩ := id O
  have ht : yTop = 1077 := rfl
  have hp0 := t1.1
  have Q2 : ∀ r j, r < ySz w → ¬ (r = p + 9 ∧ j = tNb T) → yQ (yuQ w1 (p + 9) (tNb T) (some (ySz w))) r j = yQ w r j := by
    intro r j hr hn
    show y1 (yQ w1) (p + 9) (va_up (yQ w1 (p + 9)) (tNb T) (some (ySz w))) r j = yQ w r j
    by_cases c : r = p + 9
    · rw [c, y1_same]
      unfold va_up
      rw [if_neg (fun z => hn ⟨c, z⟩), (E (p + 9) (by omega)).2.2.1]
    · rw [y1_ne _ _ c, (E r hr).2.2.1]
  have Q3 : yQ (yuQ w1 (p + 9) (tNb T) (some (ySz w))) (p + 9) (tNb T) = some (ySz w) := by
    show y1 (yQ w1) (p + 9) (va_up (yQ w1 (p + 9)) (tNb T) (some (ySz w))) (p + 9) (tNb T) = _
    rw [y1_same]
    unfold va_up
    rw [if_pos rfl]
  have slot : ∀ i j, i < nT → ¬ (i = i0 ∧ j = tNb T) → yQ (yuQ w1 (p + 9) (tNb T) (some (ySz w))) (tp i + 9) j = yQ w (tp i + 9) j := by
    intro i j hi hn
    refine Q2 _ _ (by have := (o3 i hi).2; omega) (fun z => hn ⟨?_, z.2⟩)
    exact o4 i i0 hi i1 (by omega)
  have oldq : ∀ i j q, i < nT → j < 4 → yQ w (tp i + 9) j = some q → yP (yuQ w1 (p + 9) (tNb T) (some (ySz w))) q ∧ q + 4 < ySz w ∧ ∀ i', i' < nT → q ≠ tp i' + 1 := by
    intro i j q hi hj h
    obtain ⟨z1, z2, z3⟩ := o5 i j q hi hj h
    exact ⟨yP_of rfl rfl (E.P z1 z2), z2, z3⟩
  have own' : own (yuQ w1 (p + 9) (tNb T) (some (ySz w))) nT tp loc sc := by
    refine ⟨o1, by show yTop ≤ ySz w1; omega, fun i hi => ?_, o4, fun i j q hi hj h => ?_, fun i i' j j' q hi hi' hj hj' h h' => ?_, fun b q hb h => ?_, ?_, fun j hj => ?_⟩
    · obtain ⟨z1, z2⟩ := o3 i hi
      exact ⟨yT_of rfl rfl (E.T z1 z2), by show tp i + 9 < ySz w1; omega⟩
    · by_cases c : i = i0 ∧ j = tNb T
      · rw [c.1, c.2, i2, Q3] at h
        cases h
        refine ⟨yP_of rfl rfl P, by show ySz w + 4 < ySz w1; omega, fun i' hi' => ?_⟩
        have := (o3 i' hi').2
        omega
      · rw [slot i j hi c] at h
        obtain ⟨z1, z2, z3⟩ := oldq i j q hi hj h
        exact ⟨z1, by show q + 4 < ySz w1; omega, z3⟩
    · by_cases c : i = i0 ∧ j = tNb T
      · rw [c.1, c.2, i2, Q3] at h
        cases h
        by_cases c' : i' = i0 ∧ j' = tNb T
        · exact ⟨c.1.trans c'.1.symm, c.2.trans c'.2.symm⟩
        · rw [slot i' j' hi' c'] at h'
          have := (oldq i' j' _ hi' hj' h').2.1
          omega
      · rw [slot i j hi c] at h
        by_cases c' : i' = i0 ∧ j' = tNb T
        · rw [c'.1, c'.2, i2, Q3] at h'
          cases h'
          have := (oldq i j _ hi hj h).2.1
          omega
        · rw [slot i' j' hi' c'] at h'
          exact o6 i i' j j' q hi hi' hj hj' h h'
    · rw [Q2 1023 b (by omega) (by omega)] at h
      exact o7 b q hb h
    · show yI w1 1022 2 = _
      rw [(E 1022 (by omega)).1]
      exact o8
    · obtain ⟨i, z1, z2, z3⟩ := o9 j hj
      exact ⟨i, z1, by rw [Q2 1024 j (by omega) (by omega)]; exact z2, z3⟩
  have hbN : bN (yuQ w1 (p + 9) (tNb T) (some (ySz w))) nT tp = bN w nT tp + 1 := by
    have hi16 : i0 < 16 := by omega
    have hdiv : (4 * i0 + tNb T) / 4 = i0 := by omega
    have hmod : (4 * i0 + tNb T) % 4 = tNb T := by omega
    have hblt : Nat.blt i0 nT = true := Nat.ble_eq_true_of_le i1
    unfold bN
    refine cN_flip (a := 4 * i0 + tNb T) ?_ ?_ (fun x hx => ?_) 64 (by omega)
    · rw [hdiv, hmod, i2, hq]
      exact Bool.and_false _
    · rw [hdiv, hmod, i2, Q3, hblt]
      rfl
    · cases hb : Nat.blt (x / 4) nT with
      | false => rfl
      | true =>
        have hb := Nat.le_of_ble_eq_true hb
        rw [slot (x / 4) (x % 4) hb (fun z => hx (by omega))]
  refine ⟨⟨nT, tp, loc, sc, own', ?_, r3, fun b hb h => ?_, fun b Tb hb h => ?_, ?_, ?_⟩, ?_, ?_, Q3⟩
  · show yI w1 1022 3 = _
    rw [(E 1022 (by omega)).1]
    exact r2
  · rw [Q2 1023 b (by omega) (by omega)]
    exact r4 b hb h
  · obtain ⟨p', q1, e⟩ := r5 b Tb hb h
    obtain ⟨u1, u2, i', j1, j2, j3⟩ := O.T hb q1
    refine ⟨p', by rw [Q2 1023 b (by omega) (by omega)]; exact q1, ?_⟩
    refine tHc_ext e u2 (fun r hr => (E r hr).1) (fun r hr => (E r hr).2.1) (fun j hj => ?_) (fun j q hj h => (o5 i' j q j1 hj (by rw [j2]; exact h)).2.1)
    refine Q2 _ _ (by omega) (fun z => ?_)
    have hpp : p' = p := by omega
    have : i' = i0 := o4 i' i0 j1 i1 (by rw [j2, i2]; exact hpp)
    have hba : b = a := by rw [← j3, ← i3, this]
    rw [hba, hT] at h
    cases h
    omega
  · show ySz w1 ≤ _
    rw [hbN]
    omega
  · show ySl w1 ≤ _
    rw [hbN]
    omega
  · exact yT_of rfl rfl (E.T t1 t2)
  · rw [Q2 1023 a (by omega) (by omega)]
    exact hp
/-- a trace taken out, to be begun anew -/
def RCx (u : Nat × Nat) (w : zm) (X : xs) (p : Nat) : Prop := ∃ nT tp loc sc i0, own w nT tp loc sc ∧ i0 < nT ∧ tp i0 = p ∧ loc i0 = 999 ∧ yI w 1022 3 = Int32.ofNat (xMany X) ∧ sc + xMany X + 1 = nT ∧
  (∀ a, a < 200 → xT X a = none → yQ w 1023 a = none) ∧ (∀ a T, a < 200 → xT X a = some T → ∃ p, yQ w 1023 a = some p ∧ tHc (xC X) (yI w) (yA w) (yQ w) p a T) ∧
  ySz w ≤ u.1 + 10 * nT + 5 * bN w nT tp ∧ ySl w ≤ u.2 + 358 * nT + 201 * bN w nT tp
theorem RCx.T {p : Nat} (R : RCx u w X p) : yT w p := by
  obtain ⟨nT, tp, loc, sc, i0, O, i1, i2, -⟩ := R
  have := (O.2.2.1 i0 i1).1
  rw [i2] at this
  exact this
/-- from the spares -/
theorem RCx.spare {nT : Nat} {tp loc : Nat → Nat} {sc : Nat} (O : own w nT tp loc sc) (hs : 0 < sc) (r2 : yI w 1022 3 = Int32.ofNat (xMany X)) (r3 : sc + xMany X = nT) (r4 : ∀ a, a < 200 → xT X a = none → yQ w 1023 a = none) (r5 : ∀ a T, a < 200 → xT X a = some T → ∃ p, yQ w 1023 a = some p ∧ tHc (xC X) (yI w) (yA w) (yQ w) p a T)
    (r6 : ySz w ≤ u.1 + 10 * nT + 5 * bN w nT tp) (r7 : ySl w ≤ u.2 + 358 * nT + 201 * bN w nT tp) : ∃ p, yQ w 1024 (sc - 1) = some p ∧ RCx u (yuI w 1022 2 (Int32.ofNat (sc - 1))) X p := by
  obtain ⟨o1, o2, o3, o4, o5, o6, o7, o8, o9⟩ := id O
  obtain ⟨i0, i1, i2, i3⟩ := o9 (sc - 1) (by omega)
  have ht : yTop = 1077 := rfl
  have wI : ∀ r, r ≠ 1022 → yI (yuI w 1022 2 (Int32.ofNat (sc - 1))) r = yI w r := fun r hr => y2_row _ _ hr
  refine ⟨tp i0, i2, nT, tp, nSet loc i0 999, sc - 1, i0, ⟨o1, o2, fun i hi => ?_, o4, fun i j q hi hj h => ?_, o6, fun b q hb h => ?_, ?_, fun j hj => ?_⟩, i1, rfl, nSet_same _ _ _, r2, by omega, r4, fun b Tb hb h => ?_, r6, r7⟩
  · exact ⟨yT_of rfl rfl (o3 i hi).1, (o3 i hi).2⟩
  · obtain ⟨z1, z2, z3⟩ := o5 i j q hi hj h
    exact ⟨yP_of rfl rfl z1, z2, z3⟩
  · obtain ⟨i, z1, z2, z3⟩ := o7 b q hb h
    refine ⟨i, z1, z2, ?_⟩
    rw [nSet_ne _ _ (fun z => by rw [z, i3] at z3; omega)]
    exact z3
  · rw [uI_I, y2_same]
  · obtain ⟨i, z1, z2, z3⟩ := o9 j (by omega)
    refine ⟨i, z1, z2, ?_⟩
    rw [nSet_ne _ _ (fun z => by rw [z, i3] at z3; omega)]
    exact z3
  · obtain ⟨p', q1, e⟩ := r5 b Tb hb h
    obtain ⟨u1, u2, i', j1, j2, j3⟩ := O.T hb q1
    have hu := u1.1
    refine ⟨p', q1, ?_⟩
    obtain ⟨e1, e2, e3, e4, e5, e6, e7, e8⟩ := e
    unfold tHc
    rw [wI p' (by omega)]
    refine ⟨e1, e2, e3, e4, pHc_fr e5 (wI _ (by omega)) rfl rfl rfl, e6, e7, fun j hj => ?_⟩
    obtain ⟨q, q1, q2⟩ := e8 j hj
    have := (o5 i' j q j1 (by omega) (by rw [j2]; exact q1)).1.1
    exact ⟨q, q1, pHc_fr q2 (wI _ (by omega)) rfl rfl rfl⟩
/-- a new one -/
theorem RCx.new {nT : Nat} {tp loc : Nat → Nat} (O : own w nT tp loc 0) (hm : xMany X < 16) (r2 : yI w 1022 3 = Int32.ofNat (xMany X)) (r3 : 0 + xMany X = nT) (r4 : ∀ a, a < 200 → xT X a = none → yQ w 1023 a = none) (r5 : ∀ a T, a < 200 → xT X a = some T → ∃ p, yQ w 1023 a = some p ∧ tHc (xC X) (yI w) (yA w) (yQ w) p a T)
    (r6 : ySz w ≤ u.1 + 10 * nT + 5 * bN w nT tp) (r7 : ySl w ≤ u.2 + 358 * nT + 201 * bN w nT tp) (E : ext w w1) (s1 : ySz w1 = ySz w + 10) (s2 : ySl w1 = ySl w + 358) (hT : yT w1 (ySz w)) (hQ : ∀ j, yQ w1 (ySz w + 9) j = none) : RCx u w1 X (ySz w) := by
  obtain ⟨o1, o2, o3, o4, o5, o6, o7, o8, o9⟩ := id O
  have ht : yTop = 1077 := rfl
  have told : ∀ i, i < nT → nSet tp nT (ySz w) i = tp i := fun i hi => nSet_ne _ _ (by omega)
  have slot : ∀ i j q, i < nT + 1 → yQ w1 (nSet tp nT (ySz w) i + 9) j = some q → i < nT ∧ yQ w (tp i + 9) j = some q := by
    intro i j q hi h
    by_cases c : i = nT
    · rw [c, nSet_same, hQ j] at h
      cases h
    · rw [told i (by omega), (E _ (by have := (o3 i (by omega)).2; omega)).2.2.1] at h
      exact ⟨by omega, h⟩
  have own' : own w1 (nT + 1) (nSet tp nT (ySz w)) (nSet loc nT 999) 0 := by
    refine ⟨by omega, by omega, fun i hi => ?_, fun i j hi hj h => ?_, fun i j q hi hj h => ?_, fun i i' j j' q hi hi' hj hj' h h' => ?_, fun b q hb h => ?_, ?_, fun j hj => absurd hj (Nat.not_lt_zero j)⟩
    · by_cases c : i = nT
      · rw [c, nSet_same]
        exact ⟨hT, by omega⟩
      · rw [told i (by omega)]
        obtain ⟨z1, z2⟩ := o3 i (by omega)
        exact ⟨E.T z1 z2, by omega⟩
    · by_cases c : i = nT
      · by_cases c' : j = nT
        · omega
        · rw [c, nSet_same, told j (by omega)] at h
          have := (o3 j (by omega)).2
          omega
      · by_cases c' : j = nT
        · rw [c', nSet_same, told i (by omega)] at h
          have := (o3 i (by omega)).2
          omega
        · rw [told i (by omega), told j (by omega)] at h
          exact o4 i j (by omega) (by omega) h
    · obtain ⟨z1, z2⟩ := slot i j q hi h
      obtain ⟨y1, y2, y3⟩ := o5 i j q z1 hj z2
      refine ⟨E.P y1 y2, by omega, fun i' hi' => ?_⟩
      by_cases c : i' = nT
      · rw [c, nSet_same]; omega
      · rw [told i' (by omega)]; exact y3 i' (by omega)
    · obtain ⟨z1, z2⟩ := slot i j q hi h
      obtain ⟨z3, z4⟩ := slot i' j' q hi' h'
      exact o6 i i' j j' q z1 z3 hj hj' z2 z4
    · rw [(E 1023 (by omega)).2.2.1] at h
      obtain ⟨i, z1, z2, z3⟩ := o7 b q hb h
      exact ⟨i, by omega, by rw [told i z1]; exact z2, by rw [nSet_ne _ _ (by omega)]; exact z3⟩
    · rw [(E 1022 (by omega)).1]
      exact o8
  have hbN : bN w1 (nT + 1) (nSet tp nT (ySz w)) = bN w nT tp := by
    unfold bN
    refine cN_eq 64 (fun x hx => ?_)
    by_cases c : x / 4 < nT
    · have b1 : Nat.blt (x / 4) (nT + 1) = true := Nat.ble_eq_true_of_le (by omega)
      have b2 : Nat.blt (x / 4) nT = true := Nat.ble_eq_true_of_le c
      rw [b1, b2, told _ c, (E _ (by have := (o3 _ c).2; omega)).2.2.1]
    · have b2 : Nat.blt (x / 4) nT = false := by
        cases e : Nat.blt (x / 4) nT with
        | false => rfl
        | true => have := Nat.le_of_ble_eq_true e; omega
      rw [b2, Bool.false_and]
      by_cases c2 : x / 4 = nT
      · rw [c2, nSet_same, hQ]
        exact Bool.and_false _
      · have b1 : Nat.blt (x / 4) (nT + 1) = false := by
          cases e : Nat.blt (x / 4) (nT + 1) with
          | false => rfl
          | true => have := Nat.le_of_ble_eq_true e; omega
        rw [b1]
        rfl
  refine ⟨nT + 1, nSet tp nT (ySz w), nSet loc nT 999, 0, nT, own', Nat.lt_succ_self _, nSet_same _ _ _, nSet_same _ _ _, ?_, by omega, fun b hb h => ?_, fun b Tb hb h => ?_, ?_, ?_⟩
  · rw [(E 1022 (by omega)).1]
    exact r2
  · rw [(E 1023 (by omega)).2.2.1]
    exact r4 b hb h
  · obtain ⟨p', q1, e⟩ := r5 b Tb hb h
    obtain ⟨u1, u2, i', j1, j2, j3⟩ := O.T hb q1
    refine ⟨p', by rw [(E 1023 (by omega)).2.2.1]; exact q1, ?_⟩
    exact tHc_ext e u2 (fun r hr => (E r hr).1) (fun r hr => (E r hr).2.1) (fun j hj => by rw [(E (p' + 9) (by omega)).2.2.1]) (fun j q hj h => (o5 i' j q j1 hj (by rw [j2]; exact h)).2.1)
  · rw [hbN]; omega
  · rw [hbN]; omega
/-- it is begun: nothing else changes -/
theorem RCx.frm {p : Nat} (R : RCx u w X p) (D : frm w w1 p) : RCx u w1 X p := by
  obtain ⟨d1, d3, d4, d5, d6, d7, d8⟩ := D
  obtain ⟨nT, tp, loc, sc, i0, O, i1, i2, i3, r2, r3, r4, r5, r6, r7⟩ := R
  have t1 := (O.2.2.1 i0 i1).1
  rw [i2] at t1
  refine ⟨nT, tp, loc, sc, i0, O.keep d3 d4 d5 d6 d7, i1, i2, i3, by rw [d3]; exact r2, r3, by rw [d4]; exact r4, fun b Tb hb h => ?_, by rw [d7, bN_keep nT tp d4]; exact r6, by rw [d8, bN_keep nT tp d4]; exact r7⟩
  obtain ⟨p', q1, e1, e2, e3, e4, e5, e6, e7, e8⟩ := r5 b Tb hb h
  obtain ⟨u1, u2, i', j1, j2, j3⟩ := O.T hb q1
  have hne : p ≠ p' := by
    intro z
    rw [z, ← j2] at i2
    have := O.2.2.2.1 i0 i' i1 j1 i2
    rw [this, j3] at i3
    omega
  have hs := sTT t1 u1 hne
  have ho := u1.1
  refine ⟨p', by rw [d4]; exact q1, ?_⟩
  rw [d4]
  unfold tHc
  rw [(d1 p' ho (by omega)).1, (d1 (p' + 6) (by omega) (by omega)).2, (d1 (p' + 7) (by omega) (by omega)).2, (d1 (p' + 8) (by omega) (by omega)).2]
  refine ⟨e1, e2, e3, e4, pHc_fr e5 (d1 _ (by omega) (by omega)).1 (d1 _ (by omega) (by omega)).2 (d1 _ (by omega) (by omega)).2 (d1 _ (by omega) (by omega)).2, e6, e7, fun j hj => ?_⟩
  obtain ⟨q, q1, q2⟩ := e8 j hj
  obtain ⟨o1, o2, o3⟩ := O.2.2.2.2.1 i' j q j1 (by omega) (by rw [j2]; exact q1)
  have hs' := sTP t1 o1 (by rw [← i2]; exact o3 i0 i1)
  have ho' := o1.1
  exact ⟨q, q1, pHc_fr q2 (d1 _ ho' (by omega)).1 (d1 _ (by omega) (by omega)).2 (d1 _ (by omega) (by omega)).2 (d1 _ (by omega) (by omega)).2⟩
/-- and put under its address -/
theorem RCx.put {p : Nat} (R : RCx u w X p) {a : Nat} {T : tr} (ha : a < 200) (hT : xT X a = none) (hH : tHc (xC X) (yI w) (yA w) (yQ w) p a T) : RCt u (yuI (yuQ w 1023 a (some p)) 1022 3 (yI w 1022 3 + 1)) (xsT X a (some T)) := by
  obtain ⟨nT, tp, loc, sc, i0, O, i1, i2, i3, r2, r3, r4, r5, r6, r7⟩ := R
  obtain ⟨o1, o2, o3, o4, o5, o6, o7, o8, o9⟩ := id O
  have ht : yTop = 1077 := rfl
  have t1 := (o3 i0 i1).1
  rw [i2] at t1
  have hp0 := t1.1
  have wI : ∀ r, r ≠ 1022 → yI (yuI (yuQ w 1023 a (some p)) 1022 3 (yI w 1022 3 + 1)) r = yI w r := fun r hr => y2_row _ _ hr
  have wQ : ∀ r, r ≠ 1023 → yQ (yuI (yuQ w 1023 a (some p)) 1022 3 (yI w 1022 3 + 1)) r = yQ w r := fun r hr => y1_ne _ _ hr
  have wQa : ∀ b, yQ (yuI (yuQ w 1023 a (some p)) 1022 3 (yI w 1022 3 + 1)) 1023 b = if b = a then some p else yQ w 1023 b := fun b => rfl
  have hm : xMany (xsT X a (some T)) = xMany X + 1 := by
    unfold xMany
    refine cN_flip (a := a) ?_ ?_ (fun b hb => ?_) 200 ha
    · rw [hT]; rfl
    · show (nSet (xT X) a (some T) a).isSome = true
      rw [nSet_same]; rfl
    · show (nSet (xT X) a (some T) b).isSome = (xT X b).isSome
      rw [nSet_ne _ _ hb]
  have hbN : bN (yuI (yuQ w 1023 a (some p)) 1022 3 (yI w 1022 3 + 1)) nT tp = bN w nT tp := by
    unfold bN
    refine cN_eq 64 (fun x hx => ?_)
    cases hb : Nat.blt (x / 4) nT with
    | false => rfl
    | true =>
      have hb := Nat.le_of_ble_eq_true hb
      have := (o3 _ hb).1.1
      rw [wQ _ (by omega)]
  have tr9 : ∀ i, i < nT → tp i + 9 ≠ 1023 := fun i hi => by have := (o3 i hi).1.1; omega
  refine ⟨nT, tp, nSet loc i0 a, sc, ⟨o1, o2, fun i hi => ?_, o4, fun i j q hi hj h => ?_, fun i i' j j' q hi hi' hj hj' h h' => ?_, fun b q hb h => ?_, ?_, fun j hj => ?_⟩, ?_, by rw [hm]; omega, fun b hb h => ?_, fun b Tb hb h => ?_, ?_, ?_⟩
  · exact ⟨yT_of rfl rfl (o3 i hi).1, (o3 i hi).2⟩
  · rw [wQ _ (tr9 i hi)] at h
    obtain ⟨z1, z2, z3⟩ := o5 i j q hi hj h
    exact ⟨yP_of rfl rfl z1, z2, z3⟩
  · rw [wQ _ (tr9 i hi)] at h
    rw [wQ _ (tr9 i' hi')] at h'
    exact o6 i i' j j' q hi hi' hj hj' h h'
  · rw [wQa b] at h
    by_cases c : b = a
    · rw [if_pos c] at h
      cases h
      exact ⟨i0, i1, i2, by rw [nSet_same, c]⟩
    · rw [if_neg c] at h
      obtain ⟨i, z1, z2, z3⟩ := o7 b q hb h
      refine ⟨i, z1, z2, ?_⟩
      rw [nSet_ne _ _ (fun z => by rw [z, i3] at z3; omega)]
      exact z3
  · rw [uI_I, y2_ne _ _ (Or.inr (by decide))]
    exact o8
  · obtain ⟨i, z1, z2, z3⟩ := o9 j hj
    refine ⟨i, z1, by rw [wQ 1024 (by decide)]; exact z2, ?_⟩
    rw [nSet_ne _ _ (fun z => by rw [z, i3] at z3; omega)]
    exact z3
  · rw [uI_I, y2_same, r2, hm]
    exact n_add _ 1
  · rw [wQa b]
    have h : nSet (xT X) a (some T) b = none := h
    by_cases c : b = a
    · rw [c, nSet_same] at h; cases h
    · rw [nSet_ne _ _ c] at h
      rw [if_neg c]
      exact r4 b hb h
  · have h2 : nSet (xT X) a (some T) b = some Tb := h
    have mv : ∀ {p' b' : Nat} {T' : tr}, yTop ≤ p' → (∀ j q, j < 4 → yQ w (p' + 9) j = some q → yTop ≤ q) → tHc (xC X) (yI w) (yA w) (yQ w) p' b' T' → tHc (xC X) (yI (yuI (yuQ w 1023 a (some p)) 1022 3 (yI w 1022 3 + 1))) (yA w) (yQ (yuI (yuQ w 1023 a (some p)) 1022 3 (yI w 1022 3 + 1))) p' b' T' := by
      intro p' b' T' hp' hq' e
      obtain ⟨e1, e2, e3, e4, e5, e6, e7, e8⟩ := e
      unfold tHc
      rw [wI p' (by omega), wQ (p' + 9) (by omega)]
      refine ⟨e1, e2, e3, e4, pHc_fr e5 (wI _ (by omega)) rfl rfl rfl, e6, e7, fun j hj => ?_⟩
      obtain ⟨q, q1, q2⟩ := e8 j hj
      have := hq' j q (by omega) q1
      exact ⟨q, q1, pHc_fr q2 (wI _ (by omega)) rfl rfl rfl⟩
    by_cases c : b = a
    · rw [c, nSet_same] at h2
      cases h2
      refine ⟨p, by rw [wQa b, if_pos c], ?_⟩
      rw [c]
      exact mv hp0 (fun j q hj hq => (o5 i0 j q i1 hj (by rw [i2]; exact hq)).1.1) hH
    · rw [nSet_ne _ _ c] at h2
      obtain ⟨p', q1, e⟩ := r5 b Tb hb h2
      obtain ⟨u1, u2, i', j1, j2, j3⟩ := O.T hb q1
      refine ⟨p', by rw [wQa b, if_neg c]; exact q1, ?_⟩
      exact mv u1.1 (fun j q hj hq => (o5 i' j q j1 hj (by rw [j2]; exact hq)).1.1) e
  · rw [hbN]; exact r6
  · rw [hbN]; exact r7
end NEWB
