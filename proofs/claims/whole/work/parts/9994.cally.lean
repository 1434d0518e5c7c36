/-! invalidate -/
def xDropAt (X : xs) (n : Nat) : xs := match xR X with
  | none => X
  | some r => if r.1 = n then xsR X none else X
def xInv0 (X : xs) (n : Nat) : xs := xDropAt (xsCu (xsHe X (upd (xHe X) n 0)) (upd (xCu X) n 0)) n
def xInv (X : xs) (n : Nat) : xs := xsT (xInv0 X n) n none
section CALLY
variable {d th : Nat} {u : Nat × Nat} {e w c : zm} {s : ms} {X X' : xs} {N : Nat} {F : Int32 → zm → Prop}
theorem xMany_less {a : Nat} {T : tr} (ha : a < 200) (hT : xT X a = some T) : xMany X = xMany (xsT X a none) + 1 := by
  unfold xMany
  refine cN_flip (a := a) ?_ ?_ (fun b hb => ?_) 200 ha
  · show (nSet (xT X) a none a).isSome = false
    rw [nSet_same]
    rfl
  · rw [hT]
    rfl
  · show (xT X b).isSome = (nSet (xT X) a none b).isSome
    rw [nSet_ne _ _ hb]
theorem RCt.remove (R : RCt u w X) {a : Nat} {T : tr} (ha : a < 200) (hT : xT X a = some T) : ∃ p sc, yQ w 1023 a = some p ∧ yT w p ∧ yI w 1022 2 = Int32.ofNat sc ∧ sc < 16 ∧ yI w 1022 3 = Int32.ofNat (xMany X) ∧ RCt u (yuI (yuQ (yuI (yuQ w 1024 sc (some p)) 1022 2 (Int32.ofNat (sc + 1))) 1023 a none) 1022 3 (Int32.ofNat (xMany X - 1))) (xsT X a none) := by
  obtain ⟨nT, tp, loc, sc, O, r2, r3, r4, r5, r6, r7⟩ := R
  obtain ⟨p, p1, pT⟩ := r5 a T ha hT
  obtain ⟨t1, t2, i0, i1, i2, i3⟩ := O.T ha p1
  obtain ⟨o1, o2, o3, o4, o5, o6, o7, o8, o9⟩ := id O
  have hm := xMany_less ha hT
  have ht : yTop = 1077 := rfl
  refine ⟨p, sc, p1, t1, o8, by omega, r2, ?_⟩
  have wI : ∀ r, r ≠ 1022 → yI (yuI (yuQ (yuI (yuQ w 1024 sc (some p)) 1022 2 (Int32.ofNat (sc + 1))) 1023 a none) 1022 3 (Int32.ofNat (xMany X - 1))) r = yI w r := by
    intro r hr
    show y2 (y2 (yI w) 1022 2 _) 1022 3 _ r = yI w r
    rw [y2_row _ _ hr, y2_row _ _ hr]
  have wQ : ∀ r, r ≠ 1023 → r ≠ 1024 → yQ (yuI (yuQ (yuI (yuQ w 1024 sc (some p)) 1022 2 (Int32.ofNat (sc + 1))) 1023 a none) 1022 3 (Int32.ofNat (xMany X - 1))) r = yQ w r := by
    intro r h1 h2
    show y1 (y1 (yQ w) 1024 _) 1023 _ r = yQ w r
    rw [y1_ne _ _ h1, y1_ne _ _ h2]
  have wQa : ∀ b, yQ (yuI (yuQ (yuI (yuQ w 1024 sc (some p)) 1022 2 (Int32.ofNat (sc + 1))) 1023 a none) 1022 3 (Int32.ofNat (xMany X - 1))) 1023 b = if b = a then none else yQ w 1023 b := fun b => rfl
  have wQs : ∀ b, yQ (yuI (yuQ (yuI (yuQ w 1024 sc (some p)) 1022 2 (Int32.ofNat (sc + 1))) 1023 a none) 1022 3 (Int32.ofNat (xMany X - 1))) 1024 b = if b = sc then some p else yQ w 1024 b := fun b => rfl
  have tr9 : ∀ i, i < nT → tp i + 9 ≠ 1023 ∧ tp i + 9 ≠ 1024 := fun i hi => by have := (o3 i hi).1.1; omega
  have hbN : bN (yuI (yuQ (yuI (yuQ w 1024 sc (some p)) 1022 2 (Int32.ofNat (sc + 1))) 1023 a none) 1022 3 (Int32.ofNat (xMany X - 1))) nT tp = bN w nT tp := by
    unfold bN
    refine cN_eq 64 (fun x hx => ?_)
    cases hb : Nat.blt (x / 4) nT with
    | false => rfl
    | true =>
      have hb := Nat.le_of_ble_eq_true hb
      rw [wQ _ (tr9 _ hb).1 (tr9 _ hb).2]
  refine ⟨nT, tp, nSet loc i0 (200 + sc), sc + 1, ⟨o1, o2, fun i hi => ?_, o4, fun i j q hi hj h => ?_, fun i i' j j' q hi hi' hj hj' h h' => ?_, fun b q hb h => ?_, ?_, fun j hj => ?_⟩, ?_, by omega, fun b hb h => ?_, fun b Tb hb h => ?_, ?_, ?_⟩
  · exact ⟨yT_of rfl rfl (o3 i hi).1, (o3 i hi).2⟩
  · rw [wQ _ (tr9 i hi).1 (tr9 i hi).2] at h
    obtain ⟨z1, z2, z3⟩ := o5 i j q hi hj h
    exact ⟨yP_of rfl rfl z1, z2, z3⟩
  · rw [wQ _ (tr9 i hi).1 (tr9 i hi).2] at h
    rw [wQ _ (tr9 i' hi').1 (tr9 i' hi').2] at h'
    exact o6 i i' j j' q hi hi' hj hj' h h'
  · rw [wQa b] at h
    by_cases c : b = a
    · rw [if_pos c] at h; cases h
    · rw [if_neg c] at h
      obtain ⟨i, z1, z2, z3⟩ := o7 b q hb h
      refine ⟨i, z1, z2, ?_⟩
      rw [nSet_ne _ _ (fun z => by rw [z, i3] at z3; exact c z3.symm)]
      exact z3
  · rw [uI_I]
    rw [y2_ne _ _ (Or.inr (by decide))]
    show y2 (yI w) 1022 2 (Int32.ofNat (sc + 1)) 1022 2 = _
    rw [y2_same]
  · by_cases c : j = sc
    · refine ⟨i0, i1, by rw [wQs j, if_pos c, i2], by rw [nSet_same, c]⟩
    · obtain ⟨i, z1, z2, z3⟩ := o9 j (by omega)
      refine ⟨i, z1, by rw [wQs j, if_neg c]; exact z2, ?_⟩
      rw [nSet_ne _ _ (fun z => by rw [z, i3] at z3; omega)]
      exact z3
  · rw [uI_I, y2_same, show xMany X - 1 = xMany (xsT X a none) from by omega]
  · rw [wQa b]
    by_cases c : b = a
    · rw [if_pos c]
    · rw [if_neg c]
      have h : nSet (xT X) a none b = none := h
      rw [nSet_ne _ _ c] at h
      exact r4 b hb h
  · have h : nSet (xT X) a none b = some Tb := h
    by_cases c : b = a
    · rw [c, nSet_same] at h; cases h
    · rw [nSet_ne _ _ c] at h
      obtain ⟨p', q1, e1, e2, e3, e4, e5, e6, e7, e8⟩ := r5 b Tb hb h
      obtain ⟨u1, u2, i', j1, j2, j3⟩ := O.T hb q1
      have hu := u1.1
      refine ⟨p', by rw [wQa b, if_neg c]; exact q1, ?_⟩
      unfold tHc
      rw [wI p' (by omega), wQ (p' + 9) (by omega) (by omega)]
      refine ⟨e1, e2, e3, e4, pHc_fr e5 (wI _ (by omega)) rfl rfl rfl, e6, e7, fun j hj => ?_⟩
      obtain ⟨q, q1, q2⟩ := e8 j hj
      have := (o5 i' j q j1 (by omega) (by rw [j2]; exact q1)).1.1
      exact ⟨q, q1, pHc_fr q2 (wI _ (by omega)) rfl rfl rfl⟩
  · rw [hbN]; exact r6
  · rw [hbN]; exact r7
theorem xsT_none {a : Nat} (h : xT X a = none) : xsT X a none = X := by
  have : nSet (xT X) a none = xT X := by
    funext b
    unfold nSet
    by_cases c : b = a
    · rw [if_pos c, c, h]
    · rw [if_neg c]
  unfold xsT
  rw [this]
  rfl
theorem c6_remove {a : Nat} (R : RC e u th w X) (ha : a < 200) (k : ∀ w', RC e u th w' (xsT X a none) → F (if (xT X a).isSome = true then 1 else 0) w') : zGo d m_X6_remove 0 [.ref 1022, .int (Int32.ofNat a)] [] (yz w) (zKi F) := by
  refine B_X6_remove_0 _ ?_
  rw [n_neg (by omega), n_lit 200, n_lt (by omega) (by decide), n_cl (by omega)]
  refine ⟨fun z => z.elim, fun _ => ⟨fun _ => ⟨n_in ha (by decide), fun o ho => ?_⟩, fun z => absurd ha z⟩⟩
  subst ho
  cases hT : xT X a with
  | none =>
    rw [hT, xsT_none hT] at k
    rw [R.none ha hT]
    exact ⟨fun _ => k w R, fun q hq => (by cases hq)⟩
  | some T =>
    rw [hT] at k
    obtain ⟨p, sc, p1, t1, e2, hsc, e3, R'⟩ := R.2.2.1.remove ha hT
    have m1 := xMany_less ha hT
    have mb := R.many.2
    rw [p1, e2, n_neg (by omega), n_lit 16, n_lt (by omega) (by decide), n_cl (by omega)]
    refine ⟨fun z => (by cases z), fun q hq => ⟨fun z => z.elim, fun _ => ⟨fun _ => ⟨n_in ha (by decide), fun o ho => ⟨n_in hsc (by decide), p, ho.symm, t1, ?_⟩⟩, fun z => absurd hsc z⟩⟩⟩
    refine B_X6_remove_63 _ ⟨n_in ha (by decide), ?_⟩
    rw [n_cl (by omega), show (Int32.ofNat sc + 1 : Int32) = Int32.ofNat (sc + 1) from n_add _ 1, show yI (yuI (yuQ w 1024 sc (some p)) 1022 2 (Int32.ofNat (sc + 1))) 1022 3 = Int32.ofNat (xMany X) from e3, show (Int32.ofNat (xMany X) - 1 : Int32) = Int32.ofNat (xMany X - 1) from n_sub (a := xMany X) (b := 1) (by omega)]
    exact k _ (R.fix ((((fixd_Q w _ _ _).trans (fixd_I _ _ _ (Or.inr rfl))).trans (fixd_Q _ _ _ _)).trans (fixd_I _ _ _ (Or.inr rfl))) R' ⟨_, rfl⟩)
theorem l_invalidate (C : CW th u w X) (O : xOk N X) (hd : Nat.ble 6 (d + 1) = true) (a1 : Int32) (k : lres th (uX u) w (if ¬ a1 < 0 ∧ a1 < Int32.ofNat (xM X) then xInv X a1.toNatClampNeg else X) (if ¬ a1 < 0 ∧ a1 < Int32.ofNat (xM X) then 0 else 1) (if (xT X a1.toNatClampNeg).isSome = true then 1 else 0) F) : zGo (d + 2) m_L_invalidate 0 [.ref 1000, .int a1, .ref 1076, zJ] [] (yz w) (zKi F) := by
  have hm : xM X ≤ 200 := C.1.2.2.2.2.2.2.2.2.1
  refine B_L_invalidate_0 _ (B_X8_invalidate_0 hd _ (c0_holdsZ C.1 a1 (fun n n1 n2 => ?_) (fun z => ?_)))
  · subst n2
    have hr : ¬ Int32.ofNat n < 0 ∧ Int32.ofNat n < Int32.ofNat (xM X) := ⟨by rw [n_neg (by omega)]; exact id, by rw [n_lt (by omega) (by omega)]; exact n1⟩
    rw [if_pos hr, if_pos hr, n_cl (by omega)] at k
    rw [n_cl (by omega)]
    refine ⟨fun q => absurd q (by decide), fun _ => ⟨n_in (by omega) (by decide), n_in (by omega) (by decide), ?_⟩⟩
    have R1 := (C.rc.heat n 0).cuts n 0
    have tail : ∀ w5, RC w u th w5 (xInv0 X n) → zGo d m_X6_remove 0 [.ref 1022, .int (Int32.ofNat n)] [] (yz w5) (zKi fun v7 w6 => (v7 = 0 ∨ v7 = 1) ∧ ((v7 = 0 → F 0 (yuB w6 1076 (Int32.toNatClampNeg (0 : Int32)) 0)) ∧ (¬ v7 = 0 → F 0 (yuB w6 1076 (Int32.toNatClampNeg (0 : Int32)) 1)))) := by
      intro w5 R5
      refine c6_remove R5 (by omega) (fun w' R' => ?_)
      have hx : xT (xInv0 X n) n = xT X n := by
        unfold xInv0 xDropAt
        split
        · rfl
        · split <;> rfl
      rw [hx]
      cases hT : xT X n with
      | none =>
        rw [hT] at k
        exact ⟨Or.inl rfl, fun _ => k.ok R'.cw R'.2.2.2.mk, fun q => absurd rfl q⟩
      | some T =>
        rw [hT] at k
        exact ⟨Or.inr rfl, fun q => absurd (show (1 : Int32) = 0 from q) (by decide), fun _ => k.ok R'.cw R'.2.2.2.mk⟩
    have rr := C.2.1
    cases hR : xR X with
    | none =>
      rw [hR] at rr
      rw [show yI w 1025 1 = -1 from rr.1]
      refine ⟨fun z => absurd z.symm (by rw [n_m1 (by omega)]; exact id), fun _ => tail _ ?_⟩
      have e : xInv0 X n = xsCu (xsHe X (upd (xHe X) n 0)) (upd (xCu X) n 0) := by
        unfold xInv0 xDropAt
        rw [show xR (xsCu (xsHe X (upd (xHe X) n 0)) (upd (xCu X) n 0)) = none from hR]
      rw [e]
      exact R1
    | some r =>
      rw [hR] at rr
      have hr1 := rr.1
      rw [show yI w 1025 1 = Int32.ofNat r.1 from rr.2.2.1, n_eq (by omega) (by omega)]
      have e : xInv0 X n = if r.1 = n then xsR (xsCu (xsHe X (upd (xHe X) n 0)) (upd (xCu X) n 0)) none else xsCu (xsHe X (upd (xHe X) n 0)) (upd (xCu X) n 0) := by
        unfold xInv0 xDropAt
        rw [show xR (xsCu (xsHe X (upd (xHe X) n 0)) (upd (xCu X) n 0)) = some r from hR]
      refine ⟨fun z => c4_drop R1 (fun w5 R5 => tail w5 ?_), fun z => tail _ ?_⟩
      · rw [e, if_pos z]
        exact R5
      · rw [e, if_neg z]
        exact R1
  · rw [if_neg z, if_neg z] at k
    exact ⟨fun _ => ⟨rfl, k.tw (by decide) C (mkp.rf w)⟩, fun q => absurd rfl q⟩
theorem RMt.remove {A A' : Nat → Nat → Int32} {sl : Nat → Option Nat} {t n : Nat} (R : RMt A X sl) (ht : t < 16) (hs : sl t = some n) (h9 : A' 1039 = upd (A 1039) t (-1)) (K : ∀ p, 1040 ≤ p → p ≤ 1058 → A' p = A p) (hX : xT X' = nSet (xT X) n none) (hC : xC X' = xC X) (hM : xMany X = xMany X' + 1) : RMt A' X' (nSet sl t none) := by
  obtain ⟨r1, r2, r3, r4, r5⟩ := R
  refine ⟨fun t' ht' => ?_, fun t1 t2 a h1 h2 e1 e2 => ?_, fun t' a ht' ha => ?_, fun a T ha => ?_, ?_⟩
  · rw [h9]
    by_cases c : t' = t
    · rw [c, upd_same, nSet_same]
      rfl
    · rw [upd_ne _ _ c, nSet_ne _ _ c]
      exact r1 t' ht'
  · by_cases c1 : t1 = t
    · rw [c1, nSet_same] at e1; cases e1
    · by_cases c2 : t2 = t
      · rw [c2, nSet_same] at e2; cases e2
      · rw [nSet_ne _ _ c1] at e1
        rw [nSet_ne _ _ c2] at e2
        exact r2 t1 t2 a h1 h2 e1 e2
  · by_cases c : t' = t
    · rw [c, nSet_same] at ha; cases ha
    · rw [nSet_ne _ _ c] at ha
      obtain ⟨z1, T, z2, z3⟩ := r3 t' a ht' ha
      have hne : a ≠ n := by
        intro z
        rw [z] at ha
        exact c (r2 t' t n ht' ht ha hs)
      rw [hX, hC, nSet_ne _ _ hne]
      exact ⟨z1, T, z2, tHm_fr (t := 16) z3 (fun p i h1 h2 _ => by rw [K p h1 h2]) (by omega)⟩
  · rw [hX] at ha
    by_cases c : a = n
    · rw [c, nSet_same] at ha; cases ha
    · rw [nSet_ne _ _ c] at ha
      obtain ⟨t', z1, z2⟩ := r4 a T ha
      refine ⟨t', z1, ?_⟩
      rw [nSet_ne _ _ (fun z => by rw [z, hs] at z2; cases z2; exact c rfl)]
      exact z2
  · have : cN (fun i => (sl i).isSome) 16 = cN (fun i => (nSet sl t none i).isSome) 16 + 1 := by
      refine cN_flip (a := t) ?_ ?_ (fun i hi => ?_) 16 ht
      · rw [nSet_same]; rfl
      · rw [hs]; rfl
      · rw [nSet_ne _ _ hi]
    omega
end CALLY
