/-! trace, guard -/
def trZ (X : xs) (a1 : Int32) : Option tr := if a1 < 0 then none else if a1.toNatClampNeg < 200 then xT X a1.toNatClampNeg else none
def trv (cd : Nat → Int32) (T : tr) (z : Int) : Int32 := if z = 0 then Int32.ofNat (pLn (tP T)) else if z = 1 then Int32.ofNat (pGs cd (tP T)) else if z = 2 then Int32.ofNat (nNw (pV cd (tP T))) else if z = 3 then Int32.ofNat (nFo (pV cd (tP T))) else if z = 4 then tBg T else if z = 5 then tRd T else Int32.ofNat (tNb T)
def trc (X : xs) (a1 a2 : Int32) : Int32 × Int32 := match trZ X a1 with
  | none => (1, 0)
  | some T => if a2.toInt < 0 ∨ 6 < a2.toInt then (1, 0) else (0, trv (xC X) T a2.toInt)
def gbv (cd : Nat → Int32) (T : tr) (z : Int) : Option Nat → Int32
  | none => 0
  | some j => if z = 2 then Int32.ofNat (pLn (tBp T j)) else if z = 4 then Int32.ofNat (pGs cd (tBp T j)) else if z = 5 then Int32.ofNat (nNw (pV cd (tBp T j))) else Int32.ofNat (nFo (pV cd (tBp T j)))
def gdv (cd : Nat → Int32) (T : tr) (k : Nat) (z : Int) : Int32 := if z = 0 then Int32.ofNat (pAd (tP T) (pGa cd (tP T) k)) else if z = 1 then tFl T k else if z = 3 then tCt T k else gbv cd T z (tBr T k)
def gdc (X : xs) (a1 a2 a3 : Int32) : Int32 × Int32 := match trZ X a1 with
  | none => (1, 0)
  | some T => if (¬ a2 < 0 ∧ a2 < Int32.ofNat (pGs (xC X) (tP T))) ∧ ¬ (a3.toInt < 0 ∨ 6 < a3.toInt) then (0, gdv (xC X) T a2.toNatClampNeg a3.toInt) else (1, 0)
section CALLW
variable {d th : Nat} {u : Nat × Nat} {e w c : zm} {s : ms} {X X' : xs} {N : Nat} {F : Int32 → zm → Prop}
theorem trZ_some {a1 : Int32} {T : tr} (h : trZ X a1 = some T) : ∃ n, n < 200 ∧ a1 = Int32.ofNat n ∧ xT X n = some T := by
  unfold trZ at h
  by_cases c1 : a1 < 0
  · rw [if_pos c1] at h; cases h
  · rw [if_neg c1] at h
    obtain ⟨n, n1, n2⟩ := n_of c1
    subst n2
    rw [n_cl n1] at h
    by_cases c2 : n < 200
    · rw [if_pos c2] at h
      exact ⟨n, c2, rfl, h⟩
    · rw [if_neg c2] at h; cases h
theorem c6_findZ {G : Option Nat → zm → Prop} (C : CW th u w X) (a1 : Int32) (k1 : ∀ n p T, n < 200 → a1 = Int32.ofNat n → trZ X a1 = some T → xT X n = some T → yQ w 1023 n = some p → yT w p → tHc (xC X) (yI w) (yA w) (yQ w) p n T → (∀ j q, j < 4 → yQ w (p + 9) j = some q → yP w q) → G (some p) w) (k0 : trZ X a1 = none → G none w) : zGo d m_X6_find 0 [.ref 1022, .int a1] [] (yz w) (zKr G) := by
  refine B_X6_find_0 _ ?_
  unfold trZ at k1 k0
  refine ⟨fun z => k0 (if_pos z), fun z => ?_⟩
  rw [if_neg z] at k1 k0
  obtain ⟨n, n1, n2⟩ := n_of z
  subst n2
  rw [n_cl n1] at k1 k0
  rw [n_lit 200, n_lt n1 (by decide), n_cl n1]
  refine ⟨fun z2 => ?_, fun z2 => k0 (if_neg z2)⟩
  rw [if_pos z2] at k1 k0
  refine ⟨n_in z2 (by decide), fun o ho => ?_⟩
  subst ho
  cases hT : xT X n with
  | none =>
    rw [C.rc.none z2 hT]
    exact k0 hT
  | some T =>
    obtain ⟨p, p1, t1, c1, c2⟩ := C.rc.at z2 hT
    rw [p1]
    exact k1 n p T z2 rfl hT hT p1 t1 c1 (fun j q hj hq => (c2 j q hj hq).1)
theorem c9_slotZ {sl : Nat → Option Nat} (R : RMt (sA s) X sl) {a1 : Int32} (hz : ¬ a1 < 0) (k1 : ∀ n t T, n < 200 → a1 = Int32.ofNat n → t < 16 → sl t = some n → trZ X a1 = some T → xT X n = some T → tHm (xC X) (sA s) t T → F (Int32.ofNat t) (put c s)) (k0 : trZ X a1 = none → F (-1) (put c s)) : zGo d m_X9_traceOf 0 [.ref 1031, .int a1, zJ] [] (yz (put c s)) (zKi F) := by
  obtain ⟨n, n1, n2⟩ := n_of hz
  subst n2
  have hZ : trZ X (Int32.ofNat n) = if n < 200 then xT X n else none := by
    unfold trZ
    rw [if_neg hz, n_cl n1]
  by_cases c2 : n < 200
  · rw [if_pos c2] at hZ
    refine c9_slot R c2 (fun t T t1 t2 t3 t4 => k1 n t T c2 rfl t1 t2 (hZ.trans t3) t3 t4) (fun z => k0 (hZ.trans z))
  · rw [if_neg c2] at hZ
    refine c9_traceOf (fun _ => false) (fun t ht => ?_) (k0 hZ)
    show (sA s 1039 t = Int32.ofNat n) = _
    rw [R.1 t ht]
    refine propext ⟨fun z => ?_, fun z => by cases z⟩
    cases hs : sl t with
    | none =>
      rw [hs] at z
      have : Int32.ofNat n = -1 := z.symm
      rw [n_m1 n1] at this
      exact this.elim
    | some b =>
      rw [hs] at z
      have hb := R.lt ht b hs
      have z : Int32.ofNat b = Int32.ofNat n := z
      rw [n_eq (by omega) n1] at z
      omega
theorem l_trace (C : CW th u w X) (hd : Nat.ble 6 (d + 1) = true) (a1 a2 : Int32) (k : lres th (uX u) w X (trc X a1 a2).1 (trc X a1 a2).2.toInt64 F) : zGo (d + 2) m_L_trace 0 [.ref 1000, .int a1, .int a2, .ref 1076, zJ] [] (yz w) (zKi F) := by
  refine B_L_trace_0 _ _ (B_X8_trace_0 hd _ _ (c6_findZ C a1 (fun n p T n1 n2 hZ hT p1 t1 c1 c2 => ?_) (fun hZ => ?_)))
  · unfold trc at k
    rw [hZ] at k
    dsimp only at k
    obtain ⟨e1, e2, e3, e4, ⟨f1, f2, f3, f4, f5, f6⟩, e6, e7, e8⟩ := c1
    refine ⟨fun z => (by cases z), fun q hq => ?_⟩
    cases hq
    refine ⟨fun z => ?_, fun z => ⟨t1, ?_⟩, fun z => ⟨t1, ?_⟩, fun z => ⟨t1, ?_⟩, fun z => ⟨t1, ?_⟩, fun z => ⟨t1, ?_⟩, fun z => ⟨t1, ?_⟩, fun z => ⟨t1, ?_⟩⟩
    · rw [if_pos z] at k
      exact ⟨rfl, k.tw (by decide) C (mkp.rf w)⟩
    · rw [if_neg (by omega), z] at k; rw [f1]; exact k.ok C (mkp.rf w)
    · rw [if_neg (by omega), z] at k; rw [f2]; exact k.ok C (mkp.rf w)
    · rw [if_neg (by omega), z] at k; rw [f3]; exact k.ok C (mkp.rf w)
    · rw [if_neg (by omega), z] at k; rw [f4]; exact k.ok C (mkp.rf w)
    · rw [if_neg (by omega), z] at k; rw [e3]; exact k.ok C (mkp.rf w)
    · rw [if_neg (by omega), z] at k; rw [e4]; exact k.ok C (mkp.rf w)
    · rw [if_neg (by omega), z] at k; rw [e2]; exact k.ok C (mkp.rf w)
  · unfold trc at k
    rw [hZ] at k
    dsimp only at k
    exact ⟨fun _ => ⟨rfl, k.tw (by decide) C (mkp.rf w)⟩, fun q hq => (by cases hq)⟩
theorem q_trace (R : RQ th s X) (a1 a2 : Int32) (k : mres th c X (trc X a1 a2).1 (trc X a1 a2).2 F) : zGo (d + 1) m_X9_trace 0 [.ref 1031, .int a1, .int a2, zJ] [] (yz (put c s)) (zKi F) := by
  obtain ⟨sl, Ra, Rr, Rt⟩ := id R
  have Rt : RMt (sA s) X sl := Rt
  have no : ∀ a3 : Int32, (trc X a1 a2).1 = 1 → zGo (d + 1) m_X9_trace 34 [.ref 1031, .int a1, .int a2, .int a3] [.int 1, .ref 1031] (yz (put c s)) (zKi F) := by
    intro a3 e
    rw [e] at k
    refine B_X9_trace_34 _ _ _ _ ⟨fun _ => ?_, fun q => absurd (by decide) q⟩
    rw [p_I]
    exact k.tw (by decide) R _
  have none1 : trZ X a1 = none → zGo (d + 1) m_X9_trace 13 [.ref 1031, .int a1, .int a2, zJ] [.int (-1)] (yz (put c s)) (zKi F) := by
    intro hZ
    refine B_X9_trace_13 _ _ _ ⟨fun _ => no _ ?_, fun q => absurd (show (-1 : Int32) < 0 by decide) q⟩
    unfold trc
    rw [hZ]
  refine B_X9_trace_0 _ _ ⟨fun z => none1 (if_pos z), fun z => c9_slotZ Rt z (fun n t T n1 n2 t1 t2 hZ hT h => ?_) none1⟩
  obtain ⟨h1, h2, h3, h4, h5, h6, h7, -⟩ := h
  refine B_X9_trace_13 _ _ _ ?_
  rw [n_neg (by omega)]
  refine ⟨fun q => q.elim, fun _ => B_X9_in_0 _ _ _ ?_⟩
  have g0 : (a2 < 0) = (a2.toInt < 0) := propext (Int32.lt_iff_toInt_lt)
  have g6 : ((6 : Int32) < a2) = (6 < a2.toInt) := propext (Int32.lt_iff_toInt_lt)
  rw [g0, g6]
  have e1 : (a2.toInt < 0 ∨ 6 < a2.toInt) → (trc X a1 a2).1 = 1 := by
    intro z
    unfold trc
    rw [hZ]
    dsimp only
    rw [if_pos z]
  refine ⟨fun z => ⟨fun _ => no _ (e1 (Or.inl z)), fun q => absurd rfl q⟩, fun z => ⟨fun z2 => ⟨fun _ => no _ (e1 (Or.inr z2)), fun q => absurd rfl q⟩, fun z2 => ⟨fun q => absurd q (by decide), fun _ => ?_⟩⟩⟩
  unfold trc at k
  rw [hZ] at k
  dsimp only at k
  rw [if_neg (fun q => q.elim z z2)] at k
  refine B_X9_trace_34 _ _ _ _ ⟨fun q => absurd q (by decide), fun _ => ?_⟩
  rw [n_cl (by omega), p_I]
  have hz : zin (Int32.ofNat t) 16 := n_in t1 (by decide)
  refine ⟨fun y => ⟨hz, ?_⟩, fun y => ⟨hz, ?_⟩, fun y => ⟨hz, ?_⟩, fun y => ⟨hz, ?_⟩, fun y => ⟨hz, ?_⟩, fun y => ⟨hz, ?_⟩, fun y => ⟨hz, ?_⟩⟩
  · rw [show a2.toInt = 6 from by omega] at k
    rw [show yA (put c s) 1048 t = _ from h7]
    exact k.ok R
  · rw [y] at k; rw [show yA (put c s) 1040 t = _ from h1]; exact k.ok R
  · rw [y] at k; rw [show yA (put c s) 1043 t = _ from h2]; exact k.ok R
  · rw [y] at k; rw [show yA (put c s) 1044 t = _ from h3]; exact k.ok R
  · rw [y] at k; rw [show yA (put c s) 1045 t = _ from h4]; exact k.ok R
  · rw [y] at k; rw [show yA (put c s) 1046 t = _ from h5]; exact k.ok R
  · rw [y] at k; rw [show yA (put c s) 1047 t = _ from h6]; exact k.ok R
theorem xOk.tok (O : xOk N X) {a : Nat} {T : tr} (hT : xT X a = some T) : ∃ H, aV (xM X) (xC X) H ∧ tOk (xC X) H a T ∧ a < xM X := by
  obtain ⟨o1, o2, o3, o4, o5, o6, o7, o8⟩ := O
  have h0 : ¬ xSt X = 0 := by
    intro z
    rw [(o7 z).1 a] at hT
    cases hT
  obtain ⟨H, v1, v2, v3, v4⟩ := o8 h0
  have t := v2 a T hT
  refine ⟨H, v1, t, ?_⟩
  have := t.1.2.2.1
  rw [t.2.1] at this
  exact (v1.2.2.2 _ _ this).1
theorem l_guard (C : CW th u w X) (O : xOk N X) (hd : Nat.ble 6 (d + 1) = true) (a1 a2 a3 : Int32) (k : lres th (uX u) w X (gdc X a1 a2 a3).1 (gdc X a1 a2 a3).2.toInt64 F) : zGo (d + 2) m_L_guard 0 [.ref 1000, .int a1, .int a2, .int a3, .ref 1076, zJ] [] (yz w) (zKi F) := by
  have no : (gdc X a1 a2 a3).1 = 1 → (0 : Nat) = 0 ∧ F 1 (yuX w) := by
    intro e
    rw [e] at k
    exact ⟨rfl, k.tw (by decide) C (mkp.rf w)⟩
  refine B_L_guard_0 _ _ _ (B_X8_guard_0 hd _ _ _ (c6_findZ C a1 (fun n p T n1 n2 hZ hT p1 t1 c1 c2 => ?_) (fun hZ => ?_)))
  · obtain ⟨H, V, tok, -⟩ := O.tok hT
    obtain ⟨P0, tk1, tk2, tk3, tk4⟩ := tok
    obtain ⟨hB, hB2, hB3⟩ := pOk.bd V P0.2.1 P0.2.2.1 P0.2.2.2.1
    have hgs := hB.2.1
    have hg : gdc X a1 a2 a3 = if (¬ a2 < 0 ∧ a2 < Int32.ofNat (pGs (xC X) (tP T))) ∧ ¬ (a3.toInt < 0 ∨ 6 < a3.toInt) then (0, gdv (xC X) T a2.toNatClampNeg a3.toInt) else (1, 0) := by
      unfold gdc
      rw [hZ]
    obtain ⟨e1, e2, e3, e4, ⟨f1, f2, f3, f4, f5, f6⟩, e6, e7, e8⟩ := c1
    refine ⟨fun z => (by cases z), fun q hq => ?_⟩
    cases hq
    refine ⟨fun z => no (by rw [hg, if_neg (fun q => q.1.1 z)]), fun z => ⟨t1, ?_⟩⟩
    rw [f2]
    refine ⟨fun z2 => ?_, fun z2 => no (by rw [hg, if_neg (fun q => z2 q.1.2)])⟩
    obtain ⟨m, m1, m2⟩ := n_of z
    subst m2
    have z3 := z2
    rw [n_lt m1 (by omega)] at z3
    rw [n_lit 48, n_lt m1 (by decide), n_cl m1]
    refine ⟨fun _ => ?_, fun q => absurd (by omega) q⟩
    have hz : zin (Int32.ofNat m) 48 := n_in (by omega) (by decide)
    obtain ⟨g1, g2, g3⟩ := e6 m z3
    have thr : (a3.toInt < 0 ∨ 6 < a3.toInt) → (0 : Nat) = 0 ∧ F 1 (yuX w) := fun y => no (by rw [hg, if_neg (fun q => q.2 y)])
    have kz : ¬ (a3.toInt < 0 ∨ 6 < a3.toInt) → lres th (uX u) w X 0 (gdv (xC X) T m a3.toInt).toInt64 F := by
      intro y
      rw [hg, if_pos ⟨⟨z, z2⟩, y⟩, n_cl m1] at k
      exact k
    refine B_X5_bridgeOf_0 _ _ ?_
    rw [n_neg (by omega), n_lit 48, n_lt m1 (by decide), n_cl m1]
    refine ⟨fun q => q.elim, fun _ => ⟨fun _ => ⟨t1, hz, B_X5_bridgeOf_20 _ _ _ ?_⟩, fun q => absurd (by omega) q⟩⟩
    rw [g3]
    cases hb : tBr T m with
    | none =>
      refine ⟨fun _ => ⟨thr, fun y => ⟨t1, hz, ?_⟩, fun y => ⟨t1, hz, ?_⟩, fun y => ⟨fun _ => ?_, fun q hq => (by cases hq)⟩, fun y => ⟨t1, hz, ?_⟩, fun y => ⟨fun _ => ?_, fun q hq => (by cases hq)⟩, fun y => ⟨fun _ => ?_, fun q hq => (by cases hq)⟩, fun y => ⟨fun _ => ?_, fun q hq => (by cases hq)⟩⟩, fun q => absurd (show (-1 : Int32) < 0 by decide) q⟩
      · have k := kz (by omega); rw [y] at k; rw [show yA w (p + 1 + 4) m = _ from (f6 m z3).2]; exact k.ok C (mkp.rf w)
      · have k := kz (by omega); rw [y] at k; rw [g1]; exact k.ok C (mkp.rf w)
      · have k := kz (by omega); rw [y, show gdv (xC X) T m 2 = 0 from by show gbv (xC X) T 2 (tBr T m) = 0; rw [hb]; rfl] at k; exact k.ok C (mkp.rf w)
      · have k := kz (by omega); rw [y] at k; rw [g2]; exact k.ok C (mkp.rf w)
      · have k := kz (by omega); rw [y, show gdv (xC X) T m 4 = 0 from by show gbv (xC X) T 4 (tBr T m) = 0; rw [hb]; rfl] at k; exact k.ok C (mkp.rf w)
      · have k := kz (by omega); rw [y, show gdv (xC X) T m 5 = 0 from by show gbv (xC X) T 5 (tBr T m) = 0; rw [hb]; rfl] at k; exact k.ok C (mkp.rf w)
      · have k := kz (by omega); rw [y, show gdv (xC X) T m 6 = 0 from by show gbv (xC X) T 6 (tBr T m) = 0; rw [hb]; rfl] at k; exact k.ok C (mkp.rf w)
    | some j =>
      have hj := (tk4 m j z3 hb).1
      obtain ⟨q, q1, ⟨y1, y2, y3, y4, -⟩⟩ := e8 j hj
      have yPq := c2 j q (by omega) q1
      rw [show vov (some j) = Int32.ofNat j from rfl, n_neg (by omega), n_lit 4, n_lt (by omega) (by decide), n_cl (by omega)]
      refine ⟨fun q => q.elim, fun _ => ⟨fun _ => ⟨t1, n_in (by omega) (by decide), fun o ho => ?_⟩, fun q => absurd (by omega) q⟩⟩
      rw [q1] at ho
      subst ho
      have bv : ∀ z : Int, ¬ z = 0 → ¬ z = 1 → ¬ z = 3 → gdv (xC X) T m z = gbv (xC X) T z (some j) := by
        intro z a b d
        unfold gdv
        rw [if_neg a, if_neg b, if_neg d, hb]
      refine ⟨thr, fun y => ⟨t1, hz, ?_⟩, fun y => ⟨t1, hz, ?_⟩, fun y => ⟨fun q => (by cases q), fun q hq => ?_⟩, fun y => ⟨t1, hz, ?_⟩, fun y => ⟨fun q => (by cases q), fun q hq => ?_⟩, fun y => ⟨fun q => (by cases q), fun q hq => ?_⟩, fun y => ⟨fun q => (by cases q), fun q hq => ?_⟩⟩
      · have k := kz (by omega); rw [y] at k; rw [show yA w (p + 1 + 4) m = _ from (f6 m z3).2]; exact k.ok C (mkp.rf w)
      · have k := kz (by omega); rw [y] at k; rw [g1]; exact k.ok C (mkp.rf w)
      · cases hq; have k := kz (by omega); rw [y, bv 2 (by decide) (by decide) (by decide)] at k; rw [y1]; exact ⟨yPq, k.ok C (mkp.rf w)⟩
      · have k := kz (by omega); rw [y] at k; rw [g2]; exact k.ok C (mkp.rf w)
      · cases hq; have k := kz (by omega); rw [y, bv 4 (by decide) (by decide) (by decide)] at k; rw [y2]; exact ⟨yPq, k.ok C (mkp.rf w)⟩
      · cases hq; have k := kz (by omega); rw [y, bv 5 (by decide) (by decide) (by decide)] at k; rw [y3]; exact ⟨yPq, k.ok C (mkp.rf w)⟩
      · cases hq; have k := kz (by omega); rw [y, bv 6 (by decide) (by decide) (by decide)] at k; rw [y4]; exact ⟨yPq, k.ok C (mkp.rf w)⟩
  · exact ⟨fun _ => no (by unfold gdc; rw [hZ]), fun q hq => (by cases hq)⟩
end CALLW
