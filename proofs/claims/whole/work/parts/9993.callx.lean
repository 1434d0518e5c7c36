/-! guard of the model; traceAt -/
section CALLX
variable {d th : Nat} {u : Nat × Nat} {e w c : zm} {s : ms} {X X' : xs} {N : Nat} {F : Int32 → zm → Prop}
theorem q_guard (R : RQ th s X) (O : xOk N X) (a1 a2 a3 : Int32) (k : mres th c X (gdc X a1 a2 a3).1 (gdc X a1 a2 a3).2 F) : zGo (d + 1) m_X9_guard_ 0 [.ref 1031, .int a1, .int a2, .int a3, zJ, zJ, zJ] [] (yz (put c s)) (zKi F) := by
  obtain ⟨sl, Ra, Rr, Rt⟩ := id R
  have Rt : RMt (sA s) X sl := Rt
  have no : ∀ a4 : Int32, (gdc X a1 a2 a3).1 = 1 → zGo (d + 1) m_X9_guard_ 53 [.ref 1031, .int a1, .int a2, .int a3, .int a4, zJ, zJ] [.int 1, .ref 1031] (yz (put c s)) (zKi F) := by
    intro a4 e
    rw [e] at k
    refine B_X9_guard__53 _ _ _ _ _ ⟨fun _ => ?_, fun q => absurd (by decide) q⟩
    rw [p_I]
    exact k.tw (by decide) R _
  have none1 : trZ X a1 = none → zGo (d + 1) m_X9_guard_ 13 [.ref 1031, .int a1, .int a2, .int a3, zJ, zJ, zJ] [.int (-1)] (yz (put c s)) (zKi F) := by
    intro hZ
    refine B_X9_guard__13 _ _ _ _ ⟨fun _ => no _ ?_, fun q => absurd (show (-1 : Int32) < 0 by decide) q⟩
    unfold gdc
    rw [hZ]
  refine B_X9_guard__0 _ _ _ ⟨fun z => none1 (if_pos z), fun z => c9_slotZ Rt z (fun n t T n1 n2 t1 t2 hZ hT h => ?_) none1⟩
  obtain ⟨H, V, tok, -⟩ := O.tok hT
  obtain ⟨P0, tk1, tk2, tk3, tk4⟩ := tok
  obtain ⟨hB, hB2, hB3⟩ := pOk.bd V P0.2.1 P0.2.2.1 P0.2.2.2.1
  obtain ⟨h1, h2, h3, h4, h5, h6, h7, h8, h9, h10, h11, h12, h13, h14⟩ := h
  have hg : gdc X a1 a2 a3 = if (¬ a2 < 0 ∧ a2 < Int32.ofNat (pGs (xC X) (tP T))) ∧ ¬ (a3.toInt < 0 ∨ 6 < a3.toInt) then (0, gdv (xC X) T a2.toNatClampNeg a3.toInt) else (1, 0) := by
    unfold gdc
    rw [hZ]
  refine B_X9_guard__13 _ _ _ _ ?_
  rw [n_neg (by omega), n_cl (by omega), show yA (put c s) 1043 t = Int32.ofNat (pGs (xC X) (tP T)) from h2]
  refine ⟨fun q => q.elim, fun _ => ⟨n_in t1 (by decide), B_X9_in_0 _ _ _ ⟨fun z2 => ⟨fun _ => no _ (by rw [hg, if_neg (fun q => q.1.1 z2)]), fun q => absurd rfl q⟩, fun z2 => ?_⟩⟩⟩
  obtain ⟨m, m1, m2⟩ := n_of z2
  rw [n_hi m2 m1 (by omega)]
  subst m2
  refine ⟨fun z3 => ⟨fun _ => no _ (by rw [hg, if_neg (fun q => by have := q.1.2; rw [n_lt m1 (by omega)] at this; omega)]), fun q => absurd rfl q⟩, fun z3 => ⟨fun q => absurd q (by decide), fun _ => B_X9_in_0 _ _ _ ?_⟩⟩
  have hm : m < pGs (xC X) (tP T) := by omega
  have hr : ¬ Int32.ofNat m < 0 ∧ Int32.ofNat m < Int32.ofNat (pGs (xC X) (tP T)) := ⟨z2, by rw [n_lt m1 (by omega)]; exact hm⟩
  have g0 : (a3 < 0) = (a3.toInt < 0) := propext (Int32.lt_iff_toInt_lt)
  have g6 : ((6 : Int32) < a3) = (6 < a3.toInt) := propext (Int32.lt_iff_toInt_lt)
  rw [g0, g6]
  refine ⟨fun y => ⟨fun _ => no _ (by rw [hg, if_neg (fun q => q.2 (Or.inl y))]), fun q => absurd rfl q⟩, fun y => ⟨fun y2 => ⟨fun _ => no _ (by rw [hg, if_neg (fun q => q.2 (Or.inr y2))]), fun q => absurd rfl q⟩, fun y2 => ⟨fun q => absurd q (by decide), fun _ => ?_⟩⟩⟩
  rw [hg, if_pos ⟨hr, fun q => q.elim y y2⟩, n_cl m1] at k
  obtain ⟨q1, q2, q3, q4⟩ := h9 m hm
  have hm48 : m < 48 := by omega
  have hga := hB3 m hm
  refine B_X9_guard__53 _ _ _ _ _ ⟨fun q => absurd q (by decide), fun _ => ?_⟩
  rw [n_48, n_cl (by omega), show yA (put c s) 1052 (t * 48 + m) = gbo t (tBr T m) from q4, show yA (put c s) 1049 (t * 48 + m) = Int32.ofNat (pGa (xC X) (tP T) m) from q1, n_48, n_cl (by omega), show yA (put c s) 1041 (t * 48 + pGa (xC X) (tP T) m) = Int32.ofNat (pAd (tP T) (pGa (xC X) (tP T) m)) from (h8 _ hga).1, show yA (put c s) 1050 (t * 48 + m) = tFl T m from q2, show yA (put c s) 1051 (t * 48 + m) = tCt T m from q3, p_I]
  have hz : zin (Int32.ofNat (t * 48 + m)) 768 := n_in (by omega) (by decide)
  have hz2 : zin (Int32.ofNat (t * 48 + pGa (xC X) (tP T) m)) 768 := n_in (by omega) (by decide)
  cases hb : tBr T m with
  | none =>
    have bv : ∀ z : Int, ¬ z = 0 → ¬ z = 1 → ¬ z = 3 → gdv (xC X) T m z = 0 := by
      intro z a b d
      unfold gdv
      rw [if_neg a, if_neg b, if_neg d, hb]
      rfl
    have neg : gbo t none < 0 := by show (-1 : Int32) < 0; decide
    refine ⟨hz, fun x => ⟨fun _ => ?_, fun q => absurd neg q⟩, fun x => ⟨hz, hz2, ?_⟩, fun x => ⟨hz, ?_⟩, fun x => ⟨fun _ => ?_, fun q => absurd neg q⟩, fun x => ⟨hz, ?_⟩, fun x => ⟨fun _ => ?_, fun q => absurd neg q⟩, fun x => ⟨fun _ => ?_, fun q => absurd neg q⟩⟩
    · rw [bv _ (by omega) (by omega) (by omega)] at k; exact k.ok R
    · rw [x] at k; exact k.ok R
    · rw [x] at k; exact k.ok R
    · rw [bv _ (by omega) (by omega) (by omega)] at k; exact k.ok R
    · rw [x] at k; exact k.ok R
    · rw [bv _ (by omega) (by omega) (by omega)] at k; exact k.ok R
    · rw [bv _ (by omega) (by omega) (by omega)] at k; exact k.ok R
  | some j =>
    have hj := (tk4 m j hm hb).1
    obtain ⟨b1, b2, b3, b4, b5⟩ := h11 j hj
    have bv : ∀ z : Int, ¬ z = 0 → ¬ z = 1 → ¬ z = 3 → gdv (xC X) T m z = gbv (xC X) T z (some j) := by
      intro z a b d
      unfold gdv
      rw [if_neg a, if_neg b, if_neg d, hb]
    rw [show gbo t (some j) = Int32.ofNat (t * 4 + j) from rfl, n_neg (by omega), n_cl (by omega), show yA (put c s) 1053 (t * 4 + j) = _ from b1, show yA (put c s) 1056 (t * 4 + j) = _ from b2, show yA (put c s) 1057 (t * 4 + j) = _ from b3, show yA (put c s) 1058 (t * 4 + j) = _ from b4]
    have hz4 : zin (Int32.ofNat (t * 4 + j)) 64 := n_in (by omega) (by decide)
    refine ⟨hz, fun x => ⟨fun q => q.elim, fun _ => ⟨hz4, ?_⟩⟩, fun x => ⟨hz, hz2, ?_⟩, fun x => ⟨hz, ?_⟩, fun x => ⟨fun q => q.elim, fun _ => ⟨hz4, ?_⟩⟩, fun x => ⟨hz, ?_⟩, fun x => ⟨fun q => q.elim, fun _ => ⟨hz4, ?_⟩⟩, fun x => ⟨fun q => q.elim, fun _ => ⟨hz4, ?_⟩⟩⟩
    · rw [show a3.toInt = 6 from by omega, bv 6 (by decide) (by decide) (by decide)] at k; exact k.ok R
    · rw [x] at k; exact k.ok R
    · rw [x] at k; exact k.ok R
    · rw [x, bv 2 (by decide) (by decide) (by decide)] at k; exact k.ok R
    · rw [x] at k; exact k.ok R
    · rw [x, bv 4 (by decide) (by decide) (by decide)] at k; exact k.ok R
    · rw [x, bv 5 (by decide) (by decide) (by decide)] at k; exact k.ok R
/-! the address of the i-th trace -/
def hasT (X : xs) (a : Nat) : Bool := (xT X a).isSome
def tat (X : xs) (a1 : Int32) : Option Nat := vfind (fun a => hasT X a && decide (Int32.ofNat (cN (hasT X) a) = a1)) 200 0
theorem l_traceAt (C : CW th u w X) (hd : Nat.ble 6 (d + 1) = true) (a1 : Int32) (k : lres th (uX u) w X (if (tat X a1).isNone = true then 1 else 0) (vov (tat X a1)).toInt64 F) : zGo (d + 2) m_L_traceAt 0 [.ref 1000, .int a1, .ref 1076, zJ] [] (yz w) (zKi F) := by
  refine B_L_traceAt_0 _ (B_X8_traceAt_0 hd _ (B_X6_addressOf_0 _ ?_))
  have loop : ∀ (j a : Nat) (G : Int32 → zm → Prop), a + j = 200 → G (vov (vfind (fun a => hasT X a && decide (Int32.ofNat (cN (hasT X) a) = a1)) j a)) w → zGo d m_X6_addressOf 4 [.ref 1022, .int a1, .int (Int32.ofNat (cN (hasT X) a)), .int (Int32.ofNat a)] [] (yz w) (zKi G) := by
    intro j
    induction j with
    | zero =>
      intro a G ha k
      refine B_X6_addressOf_4 _ _ _ ?_
      rw [n_lit 200, n_lt (by omega) (by decide)]
      exact ⟨fun z => absurd z (by omega), fun _ => k⟩
    | succ j ih =>
      intro a G ha k
      refine B_X6_addressOf_4 _ _ _ ?_
      rw [n_lit 200, n_lt (by omega) (by decide), n_cl (by omega), show (Int32.ofNat a + 1 : Int32) = Int32.ofNat (a + 1) from n_add _ 1, show (Int32.ofNat (cN (hasT X) a) + 1 : Int32) = Int32.ofNat (cN (hasT X) a + 1) from n_add _ 1]
      unfold vfind at k
      have ih := ih (a + 1) G (by omega)
      have cs : cN (hasT X) (a + 1) = cN (hasT X) a + (if hasT X a = true then 1 else 0) := rfl
      refine ⟨fun _ => ⟨n_in (by omega) (by decide), fun o ho => ?_⟩, fun z => absurd (by omega) z⟩
      subst ho
      cases hT : xT X a with
      | none =>
        have h0 : hasT X a = false := by unfold hasT; rw [hT]; rfl
        rw [C.rc.none (by omega) hT]
        rw [h0, if_neg (by decide)] at cs
        rw [h0, Bool.false_and, if_neg (by decide)] at k
        rw [cs] at ih
        exact ⟨fun _ => ih k, fun q hq => (by cases hq)⟩
      | some T =>
        have h1 : hasT X a = true := by unfold hasT; rw [hT]; rfl
        obtain ⟨p, p1, -⟩ := C.rc.at (show a < 200 by omega) hT
        rw [p1]
        rw [h1, if_pos rfl] at cs
        rw [cs] at ih
        refine ⟨fun z => (by cases z), fun q hq => ⟨fun z => ?_, fun z => ?_⟩⟩
        · rw [h1, decide_eq_true z, if_pos (show (true && true) = true from rfl)] at k
          exact k
        · rw [h1, decide_eq_false z, if_neg (by decide)] at k
          exact ih k
  refine loop 200 0 _ (by omega) ?_
  unfold tat at k
  generalize hv : vfind (fun a => hasT X a && decide (Int32.ofNat (cN (hasT X) a) = a1)) 200 0 = o at k ⊢
  cases o with
  | none => exact ⟨fun _ => ⟨rfl, k.tw (by decide) C (mkp.rf w)⟩, fun z => absurd rfl z⟩
  | some a =>
    have := (vfind_some hv).2.1
    rw [vov_some (by omega)]
    exact ⟨fun z => z.elim, fun _ => k.ok C (mkp.rf w)⟩
theorem cN_mono (f : Nat → Bool) : ∀ (j a : Nat), cN f a ≤ cN f (a + j) := by
  intro j
  induction j with
  | zero => intro a; exact Nat.le_refl _
  | succ j ih =>
    intro a
    have := ih a
    show cN f a ≤ cN f (a + j) + (if f (a + j) = true then 1 else 0)
    omega
theorem cN_find (f : Nat → Bool) : ∀ (n i : Nat), i < cN f n → ∃ a, a < n ∧ f a = true ∧ cN f a = i := by
  intro n
  induction n with
  | zero => intro i h; exact absurd h (Nat.not_lt_zero i)
  | succ n ih =>
    intro i h
    have h : i < cN f n + (if f n = true then 1 else 0) := h
    by_cases c1 : i < cN f n
    · obtain ⟨a, a1, a2, a3⟩ := ih i c1
      exact ⟨a, by omega, a2, a3⟩
    · by_cases c2 : f n = true
      · rw [if_pos c2] at h
        exact ⟨n, by omega, c2, by omega⟩
      · rw [if_neg c2] at h
        omega
theorem q_traceAt (R : RQ th s X) (O : xOk N X) (a1 : Int32) (k : mres th c X (if (tat X a1).isNone = true then 1 else 0) (vov (tat X a1)) F) : zGo (d + 1) m_X9_traceAt 0 [.ref 1031, .int a1, zJ, zJ] [] (yz (put c s)) (zKi F) := by
  obtain ⟨sl, Ra, Rr, Rt⟩ := id R
  have Rt : RMt (sA s) X sl := Rt
  have hm : xM X ≤ 200 := Ra.2.2.2.2.2.2.2.2.1
  have m16 := RM.many16 Rt
  have hmany : xMany X = cN (hasT X) 200 := rfl
  have bound : ∀ a, a < 200 → hasT X a = true → cN (hasT X) a < xMany X := by
    intro a ha h
    have h1 : cN (hasT X) (a + 1) = cN (hasT X) a + 1 := by
      show cN (hasT X) a + (if hasT X a = true then 1 else 0) = _
      rw [if_pos h]
    have h2 := cN_mono (hasT X) (200 - (a + 1)) (a + 1)
    rw [show a + 1 + (200 - (a + 1)) = 200 from by omega] at h2
    omega
  have no : ¬ (¬ a1 < 0 ∧ a1 < Int32.ofNat (xMany X)) → F 0 (put c (tI s 1 1)) ∧ zGo (d + 1) m_X9_traceAt 27 [.ref 1031, .int a1, .int a1, .int (Int32.ofNat 0)] [] (yz (put c (tI s 1 1))) (zKi F) := by
    intro z
    have hN : tat X a1 = none := by
      cases h : tat X a1 with
      | none => rfl
      | some a =>
        exfalso
        obtain ⟨s1, s2, s3, -⟩ := vfind_some h
        rw [Bool.and_eq_true] at s3
        have hb := bound a (by omega) s3.1
        have e := of_decide_eq_true s3.2
        apply z
        rw [← e, n_neg (by omega), n_lt (by omega) (by omega)]
        exact ⟨id, hb⟩
    rw [hN] at k
    have kk : F 0 (put c (tI s 1 1)) := k.tw (by decide) R 0
    refine ⟨kk, B_X9_traceAt_27 _ _ _ ?_⟩
    exact ⟨fun _ => ⟨fun q => absurd (show (1 : Int32) = 0 from q) (by decide), fun _ => kk⟩, fun _ => kk⟩
  refine B_X9_traceAt_0 _ (c9_many Rt (B_X9_in_0 _ _ _ ?_))
  rw [p_I, p_I]
  refine ⟨fun z => ⟨fun _ => (no (fun q => q.1 z)).2, fun q => absurd rfl q⟩, fun z => ?_⟩
  obtain ⟨n, n1, n2⟩ := n_of z
  rw [n_hi n2 n1 (by omega)]
  subst n2
  refine ⟨fun z2 => ⟨fun _ => (no (fun q => by have := q.2; rw [n_lt n1 (by omega)] at this; omega)).2, fun q => absurd rfl q⟩, fun z2 => ⟨fun q => absurd q (by decide), fun _ => ?_⟩⟩
  -- it is there
  cases h : tat X (Int32.ofNat n) with
  | none =>
    exfalso
    obtain ⟨a, b1, b2, b3⟩ := cN_find (hasT X) 200 n (by omega)
    have := vfind_none h a (Nat.zero_le _) (by omega)
    rw [b2, decide_eq_true (by rw [b3])] at this
    cases this
  | some a0 =>
    rw [h] at k
    obtain ⟨s1, s2, s3, s4⟩ := vfind_some h
    rw [Bool.and_eq_true] at s3
    have hb0 := bound a0 (by omega) s3.1
    have e0 := of_decide_eq_true s3.2
    rw [n_eq (by omega) n1] at e0
    obtain ⟨T0, hT0⟩ : ∃ T, xT X a0 = some T := by
      have := s3.1
      unfold hasT at this
      cases hT : xT X a0 with
      | none => rw [hT] at this; cases this
      | some T => exact ⟨T, rfl⟩
    obtain ⟨H, V, tok, ha0⟩ := O.tok hT0
    have R0 : RQ th (tI s 1 0) X := R.thr 0
    have Rt0 : RMt (sA (tI s 1 0)) X sl := Rt
    have e3 : yI (put c (tI s 1 0)) 1031 3 = Int32.ofNat (xM X) := Ra.2.2.2.2.2.2.2.2.2.1
    have kk : F (Int32.ofNat a0) (put c (tI s 1 0)) := k.ok R
    have loop : ∀ (j a : Nat), a + j = a0 → cN (hasT X) a ≤ n → zGo (d + 1) m_X9_traceAt 27 [.ref 1031, .int (Int32.ofNat n), .int (Int32.ofNat (n - cN (hasT X) a)), .int (Int32.ofNat a)] [] (yz (put c (tI s 1 0))) (zKi F) := by
      intro j
      induction j with
      | zero =>
        intro a ha hle
        have ha : a = a0 := by omega
        subst ha
        refine B_X9_traceAt_27 _ _ _ ?_
        rw [e3, n_lt (by omega) (by omega), show ((Int32.ofNat (n - cN (hasT X) a) = 0) = (n - cN (hasT X) a = 0)) from n_eq (by omega) (by decide)]
        refine ⟨fun _ => ⟨fun _ => c9_slot Rt0 (show a < 200 by omega) (fun t T t1 t2 t3 t4 => ?_) (fun q => by rw [hT0] at q; cases q), fun q => absurd rfl q⟩, fun q => absurd ha0 q⟩
        rw [n_neg (by omega)]
        exact ⟨fun q => q.elim, fun _ => ⟨fun _ => kk, fun q => absurd (by omega) q⟩⟩
      | succ j ih =>
        intro a ha hle
        have cs : cN (hasT X) (a + 1) = cN (hasT X) a + (if hasT X a = true then 1 else 0) := rfl
        have mono := cN_mono (hasT X) j (a + 1)
        rw [show a + 1 + j = a0 from by omega] at mono
        refine B_X9_traceAt_27 _ _ _ ?_
        rw [e3, n_lt (by omega) (by omega), show ((Int32.ofNat (n - cN (hasT X) a) = 0) = (n - cN (hasT X) a = 0)) from n_eq (by omega) (by decide), show (Int32.ofNat a + 1 : Int32) = Int32.ofNat (a + 1) from n_add _ 1]
        have ih := ih (a + 1) (by omega) (by omega)
        refine ⟨fun _ => ⟨fun _ => c9_slot Rt0 (show a < 200 by omega) (fun t T t1 t2 t3 t4 => ?_) (fun q => ?_), fun q => absurd rfl q⟩, fun q => absurd (by omega) q⟩
        · have hh : hasT X a = true := by unfold hasT; rw [t3]; rfl
          rw [if_pos hh] at cs
          have hne : ¬ cN (hasT X) a = n := by
            intro q
            have := s4 a (Nat.zero_le _) (by omega)
            rw [hh, decide_eq_true (by rw [q])] at this
            cases this
          rw [n_neg (by omega), n_pred (by omega)]
          refine ⟨fun q => q.elim, fun _ => ⟨fun q => by omega, fun _ => ?_⟩⟩
          rw [cs, ← Nat.sub_sub] at ih
          exact ih
        · have hh : hasT X a = false := by unfold hasT; rw [q]; rfl
          rw [hh, if_neg (by decide)] at cs
          rw [cs] at ih
          exact ⟨fun _ => ih, fun q => absurd (show (-1 : Int32) < 0 by decide) q⟩
    exact loop a0 0 (by omega) (Nat.zero_le _)
end CALLX
