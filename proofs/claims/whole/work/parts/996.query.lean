/-! queries: class and model answer alike -/
section QRY
variable {d th : Nat} {u : Nat × Nat} {e w c : zm} {s : ms} {X : xs} {N : Nat} {F : Int32 → zm → Prop}
theorem mkp.rf (w : zm) : mkp w w := (kp.rf w).mk
theorem lres.ok {v : Int64} {X' : xs} (k : lres th (uX u) e X' 0 v F) (C : CW th u w X') (K : mkp e w) : F 0 (yuB w 1076 (Int32.toNatClampNeg (0 : Int32)) v) := k _ (C.more.B 1076 0 v) (K.B 1076 0 v) (fun _ => rfl)
theorem lres.tw {kc : Int32} {v : Int64} {X' : xs} (k : lres th (uX u) e X' kc v F) (h : ¬ kc = 0) (C : CW th u w X') (K : mkp e w) : F kc (yuX w) := k _ C.thr K.thr (fun z => absurd z h)
theorem RQ.thr (R : RQ th s X) (v : Int32) : RQ th (tI s 1 v) X := R.cong (fun b hb => y1_ne _ _ hb) rfl (fun _ _ => rfl)
theorem mres.ok {v : Int32} (k : mres th c X 0 v F) (R : RQ th s X) : F v (put c (tI s 1 0)) := k _ v (R.thr 0) rfl (fun _ => rfl)
theorem mres.tw {kc v : Int32} (k : mres th c X kc v F) (h : ¬ kc = 0) (R : RQ th s X) (vm : Int32) : F vm (put c (tI s 1 kc)) := k _ vm (R.thr kc) rfl (fun z => absurd z h)
theorem n_hi {a1 : Int32} {n m : Nat} (ha : a1 = Int32.ofNat n) (hn : n < 2147483648) (hm : m < 2147483648) : (Int32.ofNat m - 1 < a1) = (m ≤ n) := by
  subst ha
  by_cases h : m = 0
  · subst h
    rw [show (Int32.ofNat 0 - 1 : Int32) = -1 from rfl]
    refine propext ⟨fun _ => Nat.zero_le _, fun _ => ?_⟩
    rw [Int32.lt_iff_toInt_lt, n_toInt hn, show (-1 : Int32).toInt = -1 from rfl]
    omega
  · rw [show (Int32.ofNat m - 1 : Int32) = Int32.ofNat (m - 1) from n_sub (a := m) (b := 1) (by omega), n_lt (by omega) hn]
    exact propext ⟨fun _ => by omega, fun _ => by omega⟩
theorem l_local (C : CW th u w X) (hd : Nat.ble 6 d = true) (a1 : Int32) (k : lres th (uX u) w X (if ¬ a1 < 0 ∧ a1 < 16 then 0 else 1) ((xA X).2.2.2.2.2.1 a1.toNatClampNeg).toInt64 F) : zGo (d + 1) m_L_local 0 [.ref 1000, .int a1, .ref 1076, zJ] [] (yz w) (zKi F) := by
  have er : yA w 1008 = (xA X).2.2.2.2.2.1 := C.1.2.2.2.2.2.1
  refine B_L_local_0 _ (B_X8_local_0 hd _ ?_)
  rw [er]
  refine ⟨fun z => ?_, fun z => ⟨fun z2 => ?_, fun z2 => ?_⟩⟩
  · rw [if_neg (fun q => q.1 z)] at k
    exact ⟨rfl, k.tw (by decide) C (mkp.rf w)⟩
  · rw [if_pos ⟨z, z2⟩] at k
    obtain ⟨n, n1, n2⟩ := n_of z
    subst n2
    rw [n_lit 16, n_lt n1 (by decide)] at z2
    exact ⟨n_in z2 (by decide), k.ok C (mkp.rf w)⟩
  · rw [if_neg (fun q => z2 q.2)] at k
    exact ⟨rfl, k.tw (by decide) C (mkp.rf w)⟩
theorem q_local (R : RQ th s X) (a1 : Int32) (k : mres th c X (if ¬ a1 < 0 ∧ a1 < 16 then 0 else 1) ((xA X).2.2.2.2.2.1 a1.toNatClampNeg) F) : zGo (d + 1) m_X9_local 0 [.ref 1031, .int a1] [] (yz (put c s)) (zKi F) := by
  have er : yA (put c s) 1033 = (xA X).2.2.2.2.2.1 := by
    obtain ⟨sl, Ra, -⟩ := R
    exact Ra.2.2.2.2.2.1
  refine B_X9_local_0 _ (B_X9_in_0 _ _ _ ⟨fun z => ?_, fun z => ⟨fun z2 => ?_, fun z2 => ?_⟩⟩)
  · rw [if_neg (fun q => q.1 z)] at k
    refine ⟨fun _ => B_X9_local_16 _ _ ⟨fun _ => ?_, fun q => absurd (by decide) q⟩, fun q => absurd rfl q⟩
    rw [p_I]
    exact k.tw (by decide) R _
  · obtain ⟨n, n1, n2⟩ := n_of z
    subst n2
    rw [n_lit 15, n_lt (by decide) n1] at z2
    rw [if_neg (fun q => by have := q.2; rw [n_lit 16, n_lt n1 (by decide)] at this; omega)] at k
    refine ⟨fun _ => B_X9_local_16 _ _ ⟨fun _ => ?_, fun q => absurd (by decide) q⟩, fun q => absurd rfl q⟩
    rw [p_I]
    exact k.tw (by decide) R _
  · obtain ⟨n, n1, n2⟩ := n_of z
    subst n2
    rw [n_lit 15, n_lt (by decide) n1] at z2
    rw [if_pos ⟨z, by rw [n_lit 16, n_lt n1 (by decide)]; omega⟩] at k
    refine ⟨fun q => absurd q (by decide), fun _ => B_X9_local_16 _ _ ⟨fun q => absurd q (by decide), fun _ => ⟨n_in (by omega) (by decide), ?_⟩⟩⟩
    rw [p_I, er]
    exact k.ok R
theorem l_memory (C : CW th u w X) (hd : Nat.ble 6 d = true) (a1 : Int32) (k : lres th (uX u) w X (if ¬ a1 < 0 ∧ a1 < 32 then 0 else 1) ((xA X).2.2.2.2.2.2.1 a1.toNatClampNeg).toInt64 F) : zGo (d + 1) m_L_memory 0 [.ref 1000, .int a1, .ref 1076, zJ] [] (yz w) (zKi F) := by
  have er : yA w 1011 = (xA X).2.2.2.2.2.2.1 := C.1.2.2.2.2.2.2.1
  refine B_L_memory_0 _ (B_X8_memory_0 hd _ ?_)
  rw [er]
  refine ⟨fun z => ?_, fun z => ⟨fun z2 => ?_, fun z2 => ?_⟩⟩
  · rw [if_neg (fun q => q.1 z)] at k
    exact ⟨rfl, k.tw (by decide) C (mkp.rf w)⟩
  · rw [if_pos ⟨z, z2⟩] at k
    obtain ⟨n, n1, n2⟩ := n_of z
    subst n2
    rw [n_lit 32, n_lt n1 (by decide)] at z2
    exact ⟨n_in z2 (by decide), k.ok C (mkp.rf w)⟩
  · rw [if_neg (fun q => z2 q.2)] at k
    exact ⟨rfl, k.tw (by decide) C (mkp.rf w)⟩
theorem q_memory (R : RQ th s X) (a1 : Int32) (k : mres th c X (if ¬ a1 < 0 ∧ a1 < 32 then 0 else 1) ((xA X).2.2.2.2.2.2.1 a1.toNatClampNeg) F) : zGo (d + 1) m_X9_memory 0 [.ref 1031, .int a1] [] (yz (put c s)) (zKi F) := by
  have er : yA (put c s) 1035 = (xA X).2.2.2.2.2.2.1 := by
    obtain ⟨sl, Ra, -⟩ := R
    exact Ra.2.2.2.2.2.2.1
  refine B_X9_memory_0 _ (B_X9_in_0 _ _ _ ⟨fun z => ?_, fun z => ⟨fun z2 => ?_, fun z2 => ?_⟩⟩)
  · rw [if_neg (fun q => q.1 z)] at k
    refine ⟨fun _ => B_X9_memory_16 _ _ ⟨fun _ => ?_, fun q => absurd (by decide) q⟩, fun q => absurd rfl q⟩
    rw [p_I]
    exact k.tw (by decide) R _
  · obtain ⟨n, n1, n2⟩ := n_of z
    subst n2
    rw [n_lit 31, n_lt (by decide) n1] at z2
    rw [if_neg (fun q => by have := q.2; rw [n_lit 32, n_lt n1 (by decide)] at this; omega)] at k
    refine ⟨fun _ => B_X9_memory_16 _ _ ⟨fun _ => ?_, fun q => absurd (by decide) q⟩, fun q => absurd rfl q⟩
    rw [p_I]
    exact k.tw (by decide) R _
  · obtain ⟨n, n1, n2⟩ := n_of z
    subst n2
    rw [n_lit 31, n_lt (by decide) n1] at z2
    rw [if_pos ⟨z, by rw [n_lit 32, n_lt n1 (by decide)]; omega⟩] at k
    refine ⟨fun q => absurd q (by decide), fun _ => B_X9_memory_16 _ _ ⟨fun q => absurd q (by decide), fun _ => ⟨n_in (by omega) (by decide), ?_⟩⟩⟩
    rw [p_I, er]
    exact k.ok R
theorem l_stack (C : CW th u w X) (hh : (xA X).2.1 ≤ 16) (hd : Nat.ble 6 d = true) (a1 : Int32) (k : lres th (uX u) w X (if ¬ a1 < 0 ∧ a1 < Int32.ofNat (xA X).2.1 then 0 else 1) ((xA X).2.2.2.2.1 a1.toNatClampNeg).toInt64 F) : zGo (d + 1) m_L_stack 0 [.ref 1000, .int a1, .ref 1076, zJ] [] (yz w) (zKi F) := by
  have er : yA w 1010 = (xA X).2.2.2.2.1 := C.1.2.2.2.2.1
  have e1 : yI w 1009 1 = Int32.ofNat (xA X).2.1 := C.1.2.1
  refine B_L_stack_0 _ (B_X8_stack_0 hd _ ?_)
  rw [er, e1]
  refine ⟨fun z => ?_, fun z => ⟨fun z2 => ?_, fun z2 => ?_⟩⟩
  · rw [if_neg (fun q => q.1 z)] at k
    exact ⟨rfl, k.tw (by decide) C (mkp.rf w)⟩
  · rw [if_pos ⟨z, z2⟩] at k
    obtain ⟨n, n1, n2⟩ := n_of z
    subst n2
    rw [n_lt n1 (by omega)] at z2
    rw [n_lit 16, n_lt n1 (by decide)]
    exact ⟨fun _ => ⟨n_in (by omega) (by decide), k.ok C (mkp.rf w)⟩, fun q => absurd (by omega) q⟩
  · rw [if_neg (fun q => z2 q.2)] at k
    exact ⟨rfl, k.tw (by decide) C (mkp.rf w)⟩
theorem q_stack (R : RQ th s X) (hh : (xA X).2.1 ≤ 16) (a1 : Int32) (k : mres th c X (if ¬ a1 < 0 ∧ a1 < Int32.ofNat (xA X).2.1 then 0 else 1) ((xA X).2.2.2.2.1 a1.toNatClampNeg) F) : zGo (d + 1) m_X9_stack 0 [.ref 1031, .int a1] [] (yz (put c s)) (zKi F) := by
  obtain ⟨sl, Ra, -⟩ := id R
  have er : yA (put c s) 1034 = (xA X).2.2.2.2.1 := Ra.2.2.2.2.1
  have e9 : yI (put c s) 1031 9 = Int32.ofNat (xA X).2.1 := Ra.2.1
  refine B_X9_stack_0 _ (B_X9_in_0 _ _ _ ?_)
  rw [e9]
  refine ⟨fun z => ?_, fun z => ⟨fun z2 => ?_, fun z2 => ?_⟩⟩
  · rw [if_neg (fun q => q.1 z)] at k
    refine ⟨fun _ => B_X9_stack_20 _ _ ⟨fun _ => ?_, fun q => absurd (by decide) q⟩, fun q => absurd rfl q⟩
    rw [p_I]
    exact k.tw (by decide) R _
  · obtain ⟨n, n1, n2⟩ := n_of z
    rw [n_hi n2 n1 (by omega)] at z2
    subst n2
    rw [if_neg (fun q => by have := q.2; rw [n_lt n1 (by omega)] at this; omega)] at k
    refine ⟨fun _ => B_X9_stack_20 _ _ ⟨fun _ => ?_, fun q => absurd (by decide) q⟩, fun q => absurd rfl q⟩
    rw [p_I]
    exact k.tw (by decide) R _
  · obtain ⟨n, n1, n2⟩ := n_of z
    rw [n_hi n2 n1 (by omega)] at z2
    subst n2
    rw [if_pos ⟨z, by rw [n_lt n1 (by omega)]; omega⟩] at k
    refine ⟨fun q => absurd q (by decide), fun _ => B_X9_stack_20 _ _ ⟨fun q => absurd q (by decide), fun _ => ⟨n_in (by omega) (by decide), ?_⟩⟩⟩
    rw [p_I, er]
    exact k.ok R
theorem l_output (C : CW th u w X) (hd : Nat.ble 6 d = true) (a1 : Int32) (k : lres th (uX u) w X (if ¬ a1 < 0 ∧ a1 < Int32.ofNat (xA X).2.2.1 ∧ ¬ a1 < Int32.ofNat (xA X).2.2.1 - 200 then 0 else 1) ((xA X).2.2.2.2.2.2.2 (a1.toNatClampNeg % 200)).toInt64 F) : zGo (d + 1) m_L_output 0 [.ref 1000, .int a1, .ref 1076, zJ] [] (yz w) (zKi F) := by
  have er : yA w 1012 = (xA X).2.2.2.2.2.2.2 := C.1.2.2.2.2.2.2.2.1
  have e1 : yI w 1007 7 = Int32.ofNat (xA X).2.2.1 := C.1.2.2.1
  refine B_L_output_0 _ (B_X8_output_0 hd _ ?_)
  rw [er, e1]
  refine ⟨fun z => ?_, fun z => ⟨fun z2 => ⟨fun z3 => ?_, fun z3 => ?_⟩, fun z2 => ?_⟩⟩
  · rw [if_neg (fun q => q.1 z)] at k
    exact ⟨rfl, k.tw (by decide) C (mkp.rf w)⟩
  · rw [if_neg (fun q => q.2.2 z3)] at k
    exact ⟨rfl, k.tw (by decide) C (mkp.rf w)⟩
  · rw [if_pos ⟨z, z2, z3⟩] at k
    obtain ⟨n, n1, n2⟩ := n_of z
    subst n2
    rw [n_cl n1] at k
    rw [n_lit 200, n_mod n1, n_cl (by omega)]
    exact ⟨n_in (by omega) (by decide), k.ok C (mkp.rf w)⟩
  · rw [if_neg (fun q => z2 q.2.1)] at k
    exact ⟨rfl, k.tw (by decide) C (mkp.rf w)⟩
theorem q_output (R : RQ th s X) (a1 : Int32) (k : mres th c X (if ¬ a1 < 0 ∧ a1 < Int32.ofNat (xA X).2.2.1 ∧ ¬ a1 < Int32.ofNat (xA X).2.2.1 - 200 then 0 else 1) ((xA X).2.2.2.2.2.2.2 (a1.toNatClampNeg % 200)) F) : zGo d m_X9_output 0 [.ref 1031, .int a1] [] (yz (put c s)) (zKi F) := by
  obtain ⟨sl, Ra, -⟩ := id R
  have er : yA (put c s) 1036 = (xA X).2.2.2.2.2.2.2 := Ra.2.2.2.2.2.2.2.1
  have e9 : yI (put c s) 1031 12 = Int32.ofNat (xA X).2.2.1 := Ra.2.2.1
  have no : ¬ (¬ a1 < 0 ∧ a1 < Int32.ofNat (xA X).2.2.1 ∧ ¬ a1 < Int32.ofNat (xA X).2.2.1 - 200) → zGo d m_X9_output 30 [.ref 1031, .int a1] [.int 1, .ref 1031] (yz (put c s)) (zKi F) := by
    intro z
    rw [if_neg z] at k
    refine B_X9_output_30 _ _ ⟨fun _ => ?_, fun q => absurd (by decide) q⟩
    rw [p_I]
    exact k.tw (by decide) R _
  refine B_X9_output_0 _ ?_
  rw [e9]
  refine ⟨fun z => no (fun q => q.1 z), fun z => ⟨fun z3 => no (fun q => q.2.2 z3), fun z3 => ⟨fun z2 => ?_, fun z2 => no (fun q => z2 q.2.1)⟩⟩⟩
  rw [if_pos ⟨z, z2, z3⟩] at k
  obtain ⟨n, n1, n2⟩ := n_of z
  subst n2
  rw [n_cl n1] at k
  refine B_X9_output_30 _ _ ⟨fun q => absurd q (by decide), fun _ => ?_⟩
  rw [n_lit 200, n_mod n1, n_cl (by omega), p_I, er]
  exact ⟨n_in (by omega) (by decide), k.ok R⟩
/-- an address that is there -/
theorem c0_holdsZ {w : zm} {G : Int32 → zm → Prop} (C : RCa th w X) (a1 : Int32) (k1 : ∀ n, n < xM X → a1 = Int32.ofNat n → G 1 w) (k0 : ¬ (¬ a1 < 0 ∧ a1 < Int32.ofNat (xM X)) → G 0 w) : zGo d m_X0_holds 0 [.ref 1003, .int a1] [] (yz w) (zKi G) := by
  have hm : xM X ≤ 200 := C.2.2.2.2.2.2.2.2.1
  have e3 : yI w 1003 3 = Int32.ofNat (xM X) := C.2.2.2.2.2.2.2.2.2.1
  refine B_X0_holds_0 _ ?_
  rw [e3]
  refine ⟨fun z => k0 (fun q => q.1 z), fun z => ⟨fun z2 => ?_, fun z2 => k0 (fun q => z2 q.2)⟩⟩
  obtain ⟨n, n1, n2⟩ := n_of z
  subst n2
  rw [n_lt n1 (by omega)] at z2
  rw [n_lit 200, n_lt n1 (by decide)]
  exact ⟨fun _ => k1 n z2 rfl, fun q => absurd (by omega) q⟩
theorem l_heat (C : CW th u w X) (hd : Nat.ble 6 (d + 1) = true) (a1 : Int32) (k : lres th (uX u) w X (if ¬ a1 < 0 ∧ a1 < Int32.ofNat (xM X) then 0 else 1) (xHe X a1.toNatClampNeg).toInt64 F) : zGo (d + 2) m_L_heat 0 [.ref 1000, .int a1, .ref 1076, zJ] [] (yz w) (zKi F) := by
  have hm : xM X ≤ 200 := C.1.2.2.2.2.2.2.2.2.1
  have er : yA w 1001 = xHe X := C.1.2.2.2.2.2.2.2.2.2.2.2.2.2.1
  refine B_L_heat_0 _ (B_X8_heat_0 hd _ (c0_holdsZ C.1 a1 (fun n n1 n2 => ?_) (fun z => ?_)))
  · subst n2
    rw [if_pos ⟨by rw [n_neg (by omega)]; exact id, by rw [n_lt (by omega) (by omega)]; exact n1⟩] at k
    rw [er]
    exact ⟨fun q => absurd q (by decide), fun _ => ⟨n_in (by omega) (by decide), k.ok C (mkp.rf w)⟩⟩
  · rw [if_neg z] at k
    exact ⟨fun _ => ⟨rfl, k.tw (by decide) C (mkp.rf w)⟩, fun q => absurd rfl q⟩
theorem q_heat (R : RQ th s X) (a1 : Int32) (k : mres th c X (if ¬ a1 < 0 ∧ a1 < Int32.ofNat (xM X) then 0 else 1) (xHe X a1.toNatClampNeg) F) : zGo (d + 1) m_X9_heat 0 [.ref 1031, .int a1] [] (yz (put c s)) (zKi F) := by
  obtain ⟨sl, Ra, -⟩ := id R
  have er : yA (put c s) 1037 = xHe X := Ra.2.2.2.2.2.2.2.2.2.2.2.2.2.1
  have hm : xM X ≤ 200 := Ra.2.2.2.2.2.2.2.2.1
  have e9 : yI (put c s) 1031 3 = Int32.ofNat (xM X) := Ra.2.2.2.2.2.2.2.2.2.1
  have no : ¬ (¬ a1 < 0 ∧ a1 < Int32.ofNat (xM X)) → zGo (d + 1) m_X9_heat 20 [.ref 1031, .int a1] [.int 1, .ref 1031] (yz (put c s)) (zKi F) := by
    intro z
    rw [if_neg z] at k
    refine B_X9_heat_20 _ _ ⟨fun _ => ?_, fun q => absurd (by decide) q⟩
    rw [p_I]
    exact k.tw (by decide) R _
  refine B_X9_heat_0 _ (B_X9_in_0 _ _ _ ?_)
  rw [e9]
  refine ⟨fun z => ⟨fun _ => no (fun q => q.1 z), fun q => absurd rfl q⟩, fun z => ?_⟩
  obtain ⟨n, n1, n2⟩ := n_of z
  rw [n_hi n2 n1 (by omega)]
  subst n2
  refine ⟨fun z2 => ⟨fun _ => no (fun q => ?_), fun q => absurd rfl q⟩, fun z2 => ⟨fun q => absurd q (by decide), fun _ => ?_⟩⟩
  · have := q.2
    rw [n_lt n1 (by omega)] at this
    omega
  · rw [if_pos ⟨z, by rw [n_lt n1 (by omega)]; omega⟩] at k
    refine B_X9_heat_20 _ _ ⟨fun q => absurd q (by decide), fun _ => ⟨n_in (by omega) (by decide), ?_⟩⟩
    rw [p_I, er]
    exact k.ok R
end QRY
