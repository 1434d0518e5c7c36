/-! the class ends a recording: the pure way -/
section ENDC
variable {d : Nat} {e w : zm} {u : Nat × Nat} {th : Nat} {X : xs} {N : Nat} {H : Nat → Option Nat}
theorem RCa.yV (R : RCa th w X) {I A : Nat → Nat → Int32} (h : ∀ i, i < 32 → A 1018 i = -1) : RCa th (yV w I A) X := by
  obtain ⟨a1, a2, a3, a4, a5, a6, a7, a8, a9, a10, a11, a12, a13, a14, a15, a16, a17, a18, a19, a20, a21, a22, a23⟩ := R
  exact ⟨a1, a2, a3, a4, a5, a6, a7, a8, a9, a10, a11, a12, a13, a14, a15, a16, a17, a18, a19, a20, a21, a22, h⟩
theorem kp.yV (K : kp e w) (I A : Nat → Nat → Int32) : kp e (yV w I A) := by
  obtain ⟨k1, k2, k3, k4, k5, k6⟩ := K
  refine ⟨?_, k2, fun q hq => ?_, k4, k5, k6⟩
  · refine Eq.trans ?_ k1
    funext j
    rfl
  · refine Eq.trans ?_ (k3 q hq)
    show (bif mVA q then A q else yA w q) = yA w q
    unfold yrM at hq
    rw [Bool.and_eq_true] at hq
    have h1 := Nat.le_of_ble_eq_true hq.1
    have : mVA q = false := by
      unfold mVA
      have : Nat.ble q 1021 = false := by
        cases e : Nat.ble q 1021 with
        | false => rfl
        | true => have := Nat.le_of_ble_eq_true e; omega
      rw [ybeq (q := q) (p := 1014) (by omega), ybeq (q := q) (p := 1029) (by omega), ybeq (q := q) (p := 1030) (by omega), this, Bool.and_false]
      rfl
    rw [this]
    rfl
theorem pOk.bd {m : Nat} {cd : Nat → Int32} {P : pth} (V : aV m cd H) (h1 : pLn P ≤ 48) (h3 : H (pAd P 0) = some (pHt P)) (h4 : aPath cd (pLn P) (pAd P) (pGo P)) : pBd cd P ∧ pGs cd P ≤ pLn P ∧ ∀ k, k < pGs cd P → pGa cd P k < pLn P := by
  obtain ⟨-, -, -, o4, o5⟩ := nAt_ok V h4 h3 (pLn P) (Nat.le_refl _)
  have o4 : pGs cd P ≤ pLn P := o4
  have o5 : ∀ k, k < pGs cd P → pGa cd P k < pLn P := o5
  exact ⟨⟨h1, by omega, fun k hk => by have := o5 k hk; omega⟩, o4, o5⟩
theorem c8_endRecording {F : zm → Prop} (R : RC e u th w X) (G : xGood N H X) {r : rk} (hr : xR X = some r) (k : ∀ w', RC e u th w' (xFin X) → F w') : zGo (d + 6) m_X8_endRecording 0 [.ref 1000, zJ] [] (yz w) (zKv F) := by
  have hm : xM X ≤ 200 := R.1.2.2.2.2.2.2.2.2.1
  have V := G.1
  have ro := G.2.2.2.2.2 r hr
  obtain ⟨r1, r2, r3, r4, ⟨r0, s1, s2, s3, s4⟩, r6⟩ := id ro
  have rr := R.2.1
  rw [hr] at rr
  obtain ⟨q1, q2, q3, q4, q5, q6, q7, q8, q9, q10, q11⟩ := rr
  obtain ⟨hB, hB2, hB3⟩ := pOk.bd V r1 r3 r4
  refine B_X8_endRecording_0 ?_
  refine c7_find R.code V r4 r3 r1 q5 q6 q7 q8 q9 rfl q10 rfl R.1.2.2.2.2.2.2.2.2.2.2.2.2.2.2.2.2.2.2.2.2.2.2 (fun i hi => rec_fine V r4 r3 r1 s1 s2 s3 hi) (fun I A n => ?_)
  obtain ⟨n1, n2, n3, n4, n5, n6, n7, n8, n9, n10, n11, n12, n13, n14⟩ := n
  have Ro : RCo e u th (yV w I A) X := ⟨R.1.yV n10, R.2.2.1.dyn (dyn_yV w I A) rfl rfl, R.2.2.2.yV I A⟩
  have hP : pHc (xC X) (yI (yV w I A)) (yA (yV w I A)) 1026 r.2.2 := by
    refine ⟨q5, n4, n5, n6, q11, fun j hj => ?_⟩
    obtain ⟨z1, z2⟩ := n13 j hj
    refine ⟨z1, ?_⟩
    show A 1030 j = _
    rw [z2]
    exact q10 _ (hB3 j hj)
  have b1 : yI (yV w I A) 1025 1 = Int32.ofNat r.1 := q3
  have b2 : yI (yV w I A) 1025 2 = vov r.2.1 := q4
  unfold xFin at k
  rw [hr] at k
  dsimp only at k
  refine B_X4_isOfBridge_0 ?_
  rw [b2, b1]
  cases hk : r.2.1 with
  | none =>
    rw [hk] at k r6
    dsimp only at k r6
    refine ⟨fun _ => ⟨fun _ => ?_, fun z => absurd rfl z⟩, fun z => absurd rfl z⟩
    exact c6_add Ro q1 r6.1 r6.2.1 hP hB (fun w' R' => B_X4_drop_0 (k _ R'.drop))
  | some j =>
    rw [hk] at k r6
    dsimp only at k r6
    have hj := q2 j hk
    obtain ⟨T, t1, t2, t3, t4, t5⟩ := r6
    rw [vov_some (by omega)]
    refine ⟨fun z => z.elim, fun _ => ⟨fun z => absurd z (by decide), fun _ => ?_⟩⟩
    obtain ⟨nT, tp, loc, sc, O, y2, y3, y4, y5, -⟩ := id Ro.2.1
    obtain ⟨p, p1, -⟩ := y5 r.1 T q1 t1
    refine c6_find q1 ?_
    rw [p1]
    refine ⟨fun z => (by cases z), fun q hq => ?_⟩
    cases hq
    refine ⟨(O.T q1 p1).1, ?_⟩
    rw [b2, hk, show vov (some j) = Int32.ofNat j from rfl]
    exact c5_addBridge Ro q1 t1 p1 t4 hj hP hB (fun w' R' => B_X4_drop_0 (k _ R'.drop))
/-! longs -/
theorem l_lt {a b : Nat} (ha : a < 4611686018427387904) (hb : b < 4611686018427387904) : (Int64.ofNat a < Int64.ofNat b) = (a < b) := by
  refine propext ?_
  rw [Int64.lt_iff_toInt_lt, Int64.toInt_ofNat_of_lt (by omega), Int64.toInt_ofNat_of_lt (by omega)]
  omega
theorem l_eq {a b : Nat} (ha : a < 4611686018427387904) (hb : b < 4611686018427387904) : (Int64.ofNat a = Int64.ofNat b) = (a = b) := by
  refine propext ⟨fun h => ?_, fun h => by rw [h]⟩
  have := congrArg Int64.toInt h
  rw [Int64.toInt_ofNat_of_lt (by omega), Int64.toInt_ofNat_of_lt (by omega)] at this
  omega
theorem l_sub {a b : Nat} : Int64.ofNat (a + b) - Int64.ofNat a = Int64.ofNat b := by
  rw [← Int64.ofNat_sub (a + b) a (by omega), Nat.add_sub_cancel_left]
theorem i_l {n : Nat} (h : n < 2147483648) : (Int32.ofNat n).toInt64 = Int64.ofNat n := by
  apply Int64.toInt_inj.mp
  rw [Int32.toInt_toInt64, n_toInt h, Int64.toInt_ofNat_of_lt (by omega)]
theorem cmp_val {a b : Nat} (ha : a < 4611686018427387904) (hb : b < 4611686018427387904) : (b < a ∧ lg_cmp (Int64.ofNat a) (Int64.ofNat b) = 1) ∨ (a = b ∧ lg_cmp (Int64.ofNat a) (Int64.ofNat b) = 0) ∨ (a < b ∧ lg_cmp (Int64.ofNat a) (Int64.ofNat b) = -1) := by
  have h1 : (Int64.ofNat a > Int64.ofNat b) = (b < a) := l_lt hb ha
  have h2 := l_eq ha hb
  unfold lg_cmp
  by_cases c : Int64.ofNat a > Int64.ofNat b
  · left
    rw [if_pos c]
    rw [h1] at c
    exact ⟨c, rfl⟩
  · right
    rw [if_neg c]
    rw [h1] at c
    by_cases c2 : Int64.ofNat a = Int64.ofNat b
    · left
      rw [if_pos c2]
      rw [h2] at c2
      exact ⟨c2, rfl⟩
    · right
      rw [if_neg c2]
      rw [h2] at c2
      exact ⟨by omega, rfl⟩
theorem cmp_pos {a b : Nat} (ha : a < 4611686018427387904) (hb : b < 4611686018427387904) : ((0 : Int32) < lg_cmp (Int64.ofNat a) (Int64.ofNat b)) = (b < a) := by
  rcases cmp_val ha hb with ⟨c, z⟩ | ⟨c, z⟩ | ⟨c, z⟩ <;> rw [z]
  · exact propext ⟨fun _ => c, fun _ => by decide⟩
  · exact propext ⟨fun q => absurd q (by decide), fun q => by omega⟩
  · exact propext ⟨fun q => absurd q (by decide), fun q => by omega⟩
theorem cmp_neg {a b : Nat} (ha : a < 4611686018427387904) (hb : b < 4611686018427387904) : (lg_cmp (Int64.ofNat a) (Int64.ofNat b) < (0 : Int32)) = (a < b) := by
  rcases cmp_val ha hb with ⟨c, z⟩ | ⟨c, z⟩ | ⟨c, z⟩ <;> rw [z]
  · exact propext ⟨fun q => absurd q (by decide), fun q => by omega⟩
  · exact propext ⟨fun q => absurd q (by decide), fun q => by omega⟩
  · exact propext ⟨fun _ => c, fun _ => by decide⟩
end ENDC
