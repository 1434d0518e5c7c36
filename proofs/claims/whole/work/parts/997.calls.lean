/-! calls that change the state: poke, setLocal, start -/
def xPoke (X : xs) (n : Nat) (v : Int32) : xs := ((if n = xM X then xM X + 1 else xM X), upd (xC X) n v, xF X, xSt X, xA X, xHe X, xCu X, xN X, xR X, xT X)
def xLocal (X : xs) (n : Nat) (v : Int32) : xs := xsA X ((xA X).1, (xA X).2.1, (xA X).2.2.1, (xA X).2.2.2.1, (xA X).2.2.2.2.1, upd (xA X).2.2.2.2.2.1 n v, (xA X).2.2.2.2.2.2.1, (xA X).2.2.2.2.2.2.2)
def zmem (f : Nat → Int32) (n : Nat) : Nat → Int32 := fun i => if i < n then 0 else f i
def a0 (a : am) : am := (0, 0, 0, 0, a.2.2.2.2.1, a.2.2.2.2.2.1, zmem a.2.2.2.2.2.2.1 32, a.2.2.2.2.2.2.2)
def xStart (X : xs) : xs := (xM X, xC X, xF X, 2, a0 (xA X), xHe X, xCu X, y1 (xN X) 0 0, none, xT X)
theorem zmem_step (f : Nat → Int32) (i : Nat) : upd (zmem f i) i 0 = zmem f (i + 1) := by
  funext j
  unfold upd zmem
  by_cases e : j = i
  · rw [if_pos e, if_pos (by omega)]
  · rw [if_neg e]
    by_cases c : j < i
    · rw [if_pos c, if_pos (by omega)]
    · rw [if_neg c, if_neg (by omega)]
theorem zmem_0 (f : Nat → Int32) : zmem f 0 = f := by
  funext j
  unfold zmem
  rw [if_neg (Nat.not_lt_zero j)]
section CALLS
variable {d th : Nat} {u : Nat × Nat} {e w c : zm} {s : ms} {X X' : xs} {N : Nat} {F : Int32 → zm → Prop}
theorem RCt_noTr {w' : zm} (R : RCt u w X) (D : dyn w w') (h0 : ∀ a, xT X a = none) (hT : xT X' = xT X) : RCt u w' X' := by
  obtain ⟨d1, d2, d3, d4, d5, d6, d7, d8⟩ := D
  obtain ⟨nT, tp, loc, sc, O, r2, r3, r4, r5, r6, r7⟩ := R
  have hm : xMany X' = xMany X := by unfold xMany; rw [hT]
  refine ⟨nT, tp, loc, sc, O.keep d3 d4 d5 d6 d7, by rw [d3, hm]; exact r2, by rw [hm]; exact r3, by rw [hT, d4]; exact r4, fun a T ha h => ?_, by rw [d7, bN_keep nT tp d4]; exact r6, by rw [d8, bN_keep nT tp d4]; exact r7⟩
  rw [hT, h0 a] at h
  cases h
theorem RMt.noTr {A A' : Nat → Nat → Int32} {sl : Nat → Option Nat} (R : RMt A X sl) (K : A' 1039 = A 1039) (h0 : ∀ a, xT X a = none) (hT : xT X' = xT X) : RMt A' X' sl := by
  obtain ⟨r1, r2, r3, r4, r5⟩ := R
  refine ⟨by rw [K]; exact r1, r2, fun t a ht h => ?_, by rw [hT]; exact r4, ?_⟩
  · obtain ⟨z1, T, z2, z3⟩ := r3 t a ht h
    rw [h0 a] at z2
    cases z2
  · rw [r5]
    unfold xMany
    rw [hT]
theorem n_pk {a1 : Int32} {n m : Nat} (ha : a1 = Int32.ofNat n) (hn : n < 2147483648) (hm : m ≤ 200) : (¬ Int32.ofNat m < a1 ∧ a1 < 200) = (n ≤ m ∧ n < 200) := by
  subst ha
  rw [n_lt (by omega) hn, n_lit 200, n_lt hn (by decide)]
  exact propext ⟨fun z => ⟨by omega, z.2⟩, fun z => ⟨by omega, z.2⟩⟩
def pkc (X : xs) (a1 : Int32) : Int32 := if ¬ a1 < 0 ∧ ¬ Int32.ofNat (xM X) < a1 ∧ a1 < 200 then (if xSt X = 0 then 0 else 2) else 1
theorem l_poke (C : CW th u w X) (O : xOk N X) (hd : Nat.ble 6 (d + 1) = true) (a1 a2 : Int32) (k : lres th (uX u) w (if pkc X a1 = 0 then xPoke X a1.toNatClampNeg a2 else X) (pkc X a1) (Int32.ofNat (if a1.toNatClampNeg = xM X then xM X + 1 else xM X)).toInt64 F) : zGo (d + 2) m_L_poke 0 [.ref 1000, .int a1, .int a2, .ref 1076, zJ] [] (yz w) (zKi F) := by
  have hm : xM X ≤ 200 := C.1.2.2.2.2.2.2.2.2.1
  have e3 : yI w 1003 3 = Int32.ofNat (xM X) := C.1.2.2.2.2.2.2.2.2.2.1
  have e5 : yI w 1007 5 = Int32.ofNat (xSt X) := C.1.2.2.2.2.2.2.2.2.2.2.2.2.1
  have h4 := O.2.1
  have one : ¬ (¬ a1 < 0 ∧ ¬ Int32.ofNat (xM X) < a1 ∧ a1 < 200) → F 1 (yuX w) := by
    intro z
    have e : pkc X a1 = 1 := if_neg z
    rw [e, if_neg (by decide)] at k
    exact k.tw (by decide) C (mkp.rf w)
  refine B_L_poke_0 _ _ (B_X8_poke_0 hd _ _ ?_)
  rw [e3, e5, show ((Int32.ofNat (xSt X) = 0) = (xSt X = 0)) from n_eq (by omega) (by decide)]
  refine ⟨fun z => Or.inl ⟨rfl, one (fun q => q.1 z)⟩, fun z => ⟨fun z2 => Or.inl ⟨rfl, one (fun q => q.2.1 z2)⟩, fun z2 => ⟨fun z3 => ⟨fun z4 => ?_, fun z4 => ?_⟩, fun z3 => Or.inl ⟨rfl, one (fun q => z3 q.2.2)⟩⟩⟩⟩
  · have e : pkc X a1 = 0 := by
      unfold pkc
      rw [if_pos ⟨z, z2, z3⟩, if_pos z4]
    rw [e, if_pos rfl] at k
    obtain ⟨n, n1, n2⟩ := n_of z
    have hb : n ≤ xM X ∧ n < 200 := by
      rw [← n_pk n2 n1 hm]
      exact ⟨z2, z3⟩
    subst n2
    rw [n_cl n1] at k
    refine B_X0_put_0 _ _ ?_
    rw [e3, n_cl n1, n_eq n1 (by omega)]
    refine ⟨fun q => absurd q z, fun _ => ⟨fun q => absurd q z2, fun _ => ⟨fun _ => ⟨n_in hb.2 (by decide), fun c1 => ?_, fun c1 => ?_⟩, fun q => absurd z3 q⟩⟩⟩
    all_goals
      obtain ⟨t0, r0⟩ := O.2.2.2.2.2.2.1 z4
      obtain ⟨⟨a1, a2', a3, a4, a5, a6, a7, a8, a9, a10, a11, a12, a13, a14, a15, a16, a17, a18, a19, a20, a21, a22, a23⟩, r2, r3⟩ := id C
    · rw [show (Int32.ofNat (xM X) + 1 : Int32) = Int32.ofNat (xM X + 1) from n_add _ 1]
      rw [if_pos c1] at k
      refine k.ok (w := yuI (yuA w 1004 n a2) 1003 3 (Int32.ofNat (xM X + 1))) ⟨⟨a1, a2', a3, a4, a5, a6, a7, a8, ?_, ?_, ?_, a12, a13, a14, a15, a16, a17, a18, a19, a20, a21, a22, a23⟩, ?_, RCt_noTr r3 ((dyn_A w n a2 rfl).trans (dyn_I _ 3 _ rfl (by decide))) t0 rfl⟩ (((kp.rf w).A n a2 rfl (by decide)).I 3 _ (by decide)).mk
      · show (if n = xM X then xM X + 1 else xM X) ≤ 200
        rw [if_pos c1]; omega
      · show Int32.ofNat (xM X + 1) = Int32.ofNat (if n = xM X then xM X + 1 else xM X)
        rw [if_pos c1]
      · show upd (yA w 1004) n a2 = upd (xC X) n a2
        rw [a11]
      · rw [r0] at r2
        show RCr _ _ (xR X)
        rw [r0]
        exact r2
    · rw [show yI (yuA w 1004 n a2) 1003 3 = Int32.ofNat (xM X) from e3]
      rw [if_neg c1] at k
      refine k.ok (w := yuA w 1004 n a2) ⟨⟨a1, a2', a3, a4, a5, a6, a7, a8, ?_, ?_, ?_, a12, a13, a14, a15, a16, a17, a18, a19, a20, a21, a22, a23⟩, ?_, RCt_noTr r3 (dyn_A w n a2 rfl) t0 rfl⟩ ((kp.rf w).A n a2 rfl (by decide)).mk
      · show (if n = xM X then xM X + 1 else xM X) ≤ 200
        rw [if_neg c1]; exact hm
      · show yI w 1003 3 = Int32.ofNat (if n = xM X then xM X + 1 else xM X)
        rw [if_neg c1]; exact e3
      · show upd (yA w 1004) n a2 = upd (xC X) n a2
        rw [a11]
      · rw [r0] at r2
        show RCr _ _ (xR X)
        rw [r0]
        exact r2
  · have e : pkc X a1 = 2 := by
      unfold pkc
      rw [if_pos ⟨z, z2, z3⟩, if_neg z4]
    rw [e, if_neg (by decide)] at k
    exact Or.inr ⟨rfl, k.tw (by decide) C (mkp.rf w)⟩
theorem q_poke (R : RQ th s X) (O : xOk N X) (a1 a2 : Int32) (k : mres th c (if pkc X a1 = 0 then xPoke X a1.toNatClampNeg a2 else X) (pkc X a1) (Int32.ofNat (if a1.toNatClampNeg = xM X then xM X + 1 else xM X)) F) : zGo (d + 1) m_X9_poke 0 [.ref 1031, .int a1, .int a2] [] (yz (put c s)) (zKi F) := by
  obtain ⟨sl, Ra, Rr, Rt⟩ := id R
  have hm : xM X ≤ 200 := Ra.2.2.2.2.2.2.2.2.1
  have e3 : yI (put c s) 1031 3 = Int32.ofNat (xM X) := Ra.2.2.2.2.2.2.2.2.2.1
  have h4 := O.2.1
  have no : ∀ v : Int32, pkc X a1 = v → ¬ v = 0 → 0 < v → zGo (d + 1) m_X9_poke 36 [.ref 1031, .int a1, .int a2] [.int v, .ref 1031] (yz (put c s)) (zKi F) := by
    intro v e hv hv2
    rw [e, if_neg hv] at k
    refine B_X9_poke_36 _ _ _ ⟨fun _ => ?_, fun q => absurd hv2 q⟩
    rw [p_I]
    exact k.tw hv R _
  refine B_X9_poke_0 _ _ (B_X9_in_0 _ _ _ ?_)
  rw [e3, R.st2, show ((Int32.ofNat (xSt X) = 0) = (xSt X = 0)) from n_eq (by omega) (by decide)]
  refine ⟨fun z => ⟨fun _ => no 1 (if_neg (fun q => q.1 z)) (by decide) (by decide), fun q => absurd rfl q⟩, fun z => ⟨fun z2 => ⟨fun _ => no 1 (if_neg (fun q => q.2.1 z2)) (by decide) (by decide), fun q => absurd rfl q⟩, fun z2 => ⟨fun q => absurd q (by decide), fun _ => ?_⟩⟩⟩
  obtain ⟨n, n1, n2⟩ := n_of z
  have hle : n ≤ xM X := by
    rw [n2, n_lt (by omega) n1] at z2
    omega
  refine ⟨fun z3 => no 1 (if_neg (fun q => ?_)) (by decide) (by decide), fun z3 => ⟨fun z4 => ?_, fun z4 => no 2 ?_ (by decide) (by decide)⟩⟩
  · rw [z3] at q
    exact absurd q.2.2 (by decide)
  · have h200 : n < 200 := by
      rw [n2, n_lit 200, n_eq n1 (by decide)] at z3
      omega
    have hb : ¬ Int32.ofNat (xM X) < a1 ∧ a1 < 200 := by
      rw [n_pk n2 n1 hm]
      exact ⟨hle, h200⟩
    have e : pkc X a1 = 0 := by
      unfold pkc
      rw [if_pos ⟨z, hb⟩, if_pos z4]
    rw [e, if_pos rfl] at k
    subst n2
    rw [n_cl n1] at k
    obtain ⟨t0, r0⟩ := O.2.2.2.2.2.2.1 z4
    obtain ⟨a1, a2', a3, a4, a5, a6, a7, a8, a9, a10, a11, a12, a13, a14, a15, a16, a17, a18, a19, a20, a21, a22⟩ := Ra
    rw [r0] at Rr
    refine B_X9_poke_36 _ _ _ ⟨fun q => absurd q (by decide), fun _ => ⟨n_in h200 (by decide), ?_⟩⟩
    rw [e3, n_cl n1, n_eq n1 (by omega), p_I, p_A _ _ _ _ _ rfl]
    refine ⟨fun c1 => ?_, fun c1 => ?_⟩
    · rw [if_pos c1] at k
      rw [p_I, show (Int32.ofNat (xM X) + 1 : Int32) = Int32.ofNat (xM X + 1) from n_add _ 1]
      refine k _ _ ⟨sl, ⟨a1, a2', a3, a4, a5, a6, a7, a8, ?_, ?_, ?_, a12, a13, a14, a15, a16, a17, a18, a19, a20, a21, a22⟩, ?_, Rt.noTr rfl t0 rfl⟩ rfl (fun _ => rfl)
      · show (if n = xM X then xM X + 1 else xM X) ≤ 200
        rw [if_pos c1]; omega
      · show Int32.ofNat (xM X + 1) = Int32.ofNat (if n = xM X then xM X + 1 else xM X)
        rw [if_pos c1]
      · show upd (sA (tI s 1 0) 1032) n a2 = upd (xC X) n a2
        rw [a11]
      · show RMr _ _ sl (xR X)
        rw [r0]
        exact Rr
    · rw [if_neg c1] at k
      refine k _ _ ⟨sl, ⟨a1, a2', a3, a4, a5, a6, a7, a8, ?_, ?_, ?_, a12, a13, a14, a15, a16, a17, a18, a19, a20, a21, a22⟩, ?_, Rt.noTr rfl t0 rfl⟩ rfl (fun _ => rfl)
      · show (if n = xM X then xM X + 1 else xM X) ≤ 200
        rw [if_neg c1]; exact hm
      · show sI s 3 = Int32.ofNat (if n = xM X then xM X + 1 else xM X)
        rw [if_neg c1]; exact a10
      · show upd (sA (tI s 1 0) 1032) n a2 = upd (xC X) n a2
        rw [a11]
      · show RMr _ _ sl (xR X)
        rw [r0]
        exact Rr
  · have h200 : n < 200 := by
      rw [n2, n_lit 200, n_eq n1 (by decide)] at z3
      omega
    have hb : ¬ Int32.ofNat (xM X) < a1 ∧ a1 < 200 := by
      rw [n_pk n2 n1 hm]
      exact ⟨hle, h200⟩
    unfold pkc
    rw [if_pos ⟨z, hb⟩, if_neg z4]
theorem xPoke_ok (O : xOk N X) (h0 : xSt X = 0) {n : Nat} (hn : n ≤ xM X) (h2 : n < 200) (v : Int32) : xOk N (xPoke X n v) := by
  obtain ⟨o1, o2, o3, o4, o5, o6, o7, o8⟩ := O
  refine ⟨?_, o2, o3, o4, o5, o6, o7, fun z => absurd h0 z⟩
  show (if n = xM X then xM X + 1 else xM X) ≤ 200
  split <;> omega
end CALLS
