/-! reset -/
section RST
variable {d th : Nat} {u : Nat × Nat} {e w c : zm} {s : ms} {X X' : xs} {N : Nat}
theorem xClr_0 (X : xs) : xClr X 0 = X := by
  have : (fun b => if b < 0 then none else xT X b) = xT X := by
    funext b
    rw [if_neg (Nat.not_lt_zero b)]
  unfold xClr
  rw [this]
  rfl
theorem xClr_step (X : xs) (i : Nat) : xsT (xClr X i) i none = xClr X (i + 1) := by
  have : nSet (fun b => if b < i then none else xT X b) i none = (fun b => if b < i + 1 then none else xT X b) := by
    funext b
    unfold nSet
    by_cases c : b = i
    · rw [if_pos c, if_pos (by omega)]
    · rw [if_neg c]
      show (if b < i then none else xT X b) = _
      by_cases c2 : b < i
      · rw [if_pos c2, if_pos (by omega)]
      · rw [if_neg c2, if_neg (by omega)]
  show (_, _, _, _, _, _, _, _, _, nSet (fun b => if b < i then none else xT X b) i none) = ((_, _, _, _, _, _, _, _, _, _) : xs)
  rw [this]
  rfl
theorem c6_clear {G : zm → Prop} (R : RC e u th w X) (k : ∀ w', RC e u th w' (xClr X 200) → G w') : zGo (d + 1) m_X6_clear 0 [.ref 1022, zJ] [] (yz w) (zKv G) := by
  refine B_X6_clear_0 ?_
  have loop : ∀ (j i : Nat) (w : zm), i + j = 200 → RC e u th w (xClr X i) → zGo (d + 1) m_X6_clear 2 [.ref 1022, .int (Int32.ofNat i)] [] (yz w) (zKv G) := by
    intro j
    induction j with
    | zero =>
      intro i w hi R
      have hi : i = 200 := by omega
      subst hi
      refine B_X6_clear_2 _ ?_
      rw [n_lit 200, n_lt (by omega) (by decide)]
      exact ⟨fun z => absurd z (by omega), fun _ => k w R⟩
    | succ j ih =>
      intro i w hi R
      refine B_X6_clear_2 _ ?_
      rw [n_lit 200, n_lt (by omega) (by decide), show (Int32.ofNat i + 1 : Int32) = Int32.ofNat (i + 1) from n_add _ 1]
      refine ⟨fun _ => c6_remove R (by omega) (fun w' R' => ?_), fun z => absurd (by omega) z⟩
      rw [xClr_step] at R'
      exact ih (i + 1) w' (by omega) R'
  exact loop 200 0 w (by omega) (by rw [xClr_0]; exact R)
def xN0 (X : xs) (i : Nat) : xs := (xM X, xC X, xF X, xSt X, xA X, xHe X, xCu X, y1 (xN X) i 0, xR X, xT X)
def xCode0 (X : xs) : xs := (0, xC X, -1, xSt X, xA X, xHe X, xCu X, xN X, xR X, xT X)
def xLoc0 (X : xs) : xs := xsA X ((xA X).1, (xA X).2.1, (xA X).2.2.1, (xA X).2.2.2.1, (xA X).2.2.2.2.1, zmem (xA X).2.2.2.2.2.1 16, (xA X).2.2.2.2.2.2.1, (xA X).2.2.2.2.2.2.2)
theorem RC.code0 (R : RC e u th w X) : RC e u th (yuI (yuI w 1003 3 0) 1003 4 (-1)) (xCode0 X) := by
  obtain ⟨⟨a1, a2, a3, a4, a5, a6, a7, a8, a9, a10, a11, a12, a13, a14, a15, a16, a17, a18, a19, a20, a21, a22, a23⟩, r2, r3, r4⟩ := R
  refine ⟨⟨a1, a2, a3, a4, a5, a6, a7, a8, Nat.zero_le _, rfl, a11, rfl, a13, a14, a15, a16, a17, a18, a19, a20, a21, a22, a23⟩, RCr_keep r2 ?_ ?_ rfl rfl, r3.dyn ((dyn_I w 3 _ rfl (by decide)).trans (dyn_I _ 4 _ rfl (by decide))) rfl rfl, (r4.I 3 _ (by decide)).I 4 _ (by decide)⟩
  · rw [uI_I, uI_I, y2_row _ _ (by decide), y2_row _ _ (by decide)]
  · rw [uI_I, uI_I, y2_row _ _ (by decide), y2_row _ _ (by decide)]
theorem RC.loc0 (R : RC e u th w X) : RC e u th (yuR w 1008 (fun i => if i < 16 then 0 else yA w 1008 i)) (xLoc0 X) := by
  obtain ⟨⟨a1, a2, a3, a4, a5, a6, a7, a8, a9, a10, a11, a12, a13, a14, a15, a16, a17, a18, a19, a20, a21, a22, a23⟩, r2, r3, r4⟩ := R
  refine ⟨⟨a1, a2, a3, a4, a5, ?_, a7, a8, a9, a10, a11, a12, a13, a14, a15, a16, a17, a18, a19, a20, a21, a22, a23⟩, RCr_keep r2 rfl rfl rfl rfl, r3.dyn (dyn_R w _ rfl) rfl rfl, r4.R _ rfl (by decide)⟩
  show (fun i => if i < 16 then 0 else yA w 1008 i) = zmem (xA X).2.2.2.2.2.1 16
  rw [a6]
  rfl
theorem RC.heat0 (R : RC e u th w X) : RC e u th (yuR w 1001 (fun i => if i < 200 then 0 else yA w 1001 i)) (xsHe X (zmem (xHe X) 200)) := by
  obtain ⟨⟨a1, a2, a3, a4, a5, a6, a7, a8, a9, a10, a11, a12, a13, a14, a15, a16, a17, a18, a19, a20, a21, a22, a23⟩, r2, r3, r4⟩ := R
  refine ⟨⟨a1, a2, a3, a4, a5, a6, a7, a8, a9, a10, a11, a12, a13, ?_, a15, a16, a17, a18, a19, a20, a21, a22, a23⟩, RCr_keep r2 rfl rfl rfl rfl, r3.dyn (dyn_R w _ rfl) rfl rfl, r4.R _ rfl (by decide)⟩
  show (fun i => if i < 200 then 0 else yA w 1001 i) = zmem (xHe X) 200
  rw [a14]
  rfl
theorem RC.cuts0 (R : RC e u th w X) : RC e u th (yuR w 1002 (fun i => if i < 200 then 0 else yA w 1002 i)) (xsCu X (zmem (xCu X) 200)) := by
  obtain ⟨⟨a1, a2, a3, a4, a5, a6, a7, a8, a9, a10, a11, a12, a13, a14, a15, a16, a17, a18, a19, a20, a21, a22, a23⟩, r2, r3, r4⟩ := R
  refine ⟨⟨a1, a2, a3, a4, a5, a6, a7, a8, a9, a10, a11, a12, a13, a14, ?_, a16, a17, a18, a19, a20, a21, a22, a23⟩, RCr_keep r2 rfl rfl rfl rfl, r3.dyn (dyn_R w _ rfl) rfl rfl, r4.R _ rfl (by decide)⟩
  show (fun i => if i < 200 then 0 else yA w 1002 i) = zmem (xCu X) 200
  rw [a15]
  rfl
theorem RC.z0 (R : RC e u th w X) : RC e u th (yuL w 1000 8 0) (xN0 X 0) := by
  obtain ⟨⟨a1, a2, a3, a4, a5, a6, a7, a8, a9, a10, a11, a12, a13, a14, a15, a16, a17, a18, a19, a20, a21, a22, a23⟩, r2, r3, r4⟩ := R
  exact ⟨⟨a1, a2, a3, a4, a5, a6, a7, a8, a9, a10, a11, a12, a13, a14, a15, rfl, a17, a18, a19, a20, a21, a22, a23⟩, RCr_keep r2 rfl rfl rfl rfl, r3.dyn (dyn_L w _ _ _) rfl rfl, r4.L _ _ (by decide)⟩
theorem RC.z1 (R : RC e u th w X) : RC e u th (yuL w 1000 9 0) (xN0 X 1) := by
  obtain ⟨⟨a1, a2, a3, a4, a5, a6, a7, a8, a9, a10, a11, a12, a13, a14, a15, a16, a17, a18, a19, a20, a21, a22, a23⟩, r2, r3, r4⟩ := R
  exact ⟨⟨a1, a2, a3, a4, a5, a6, a7, a8, a9, a10, a11, a12, a13, a14, a15, a16, rfl, a18, a19, a20, a21, a22, a23⟩, RCr_keep r2 rfl rfl rfl rfl, r3.dyn (dyn_L w _ _ _) rfl rfl, r4.L _ _ (by decide)⟩
theorem RC.z2 (R : RC e u th w X) : RC e u th (yuL w 1000 10 0) (xN0 X 2) := by
  obtain ⟨⟨a1, a2, a3, a4, a5, a6, a7, a8, a9, a10, a11, a12, a13, a14, a15, a16, a17, a18, a19, a20, a21, a22, a23⟩, r2, r3, r4⟩ := R
  exact ⟨⟨a1, a2, a3, a4, a5, a6, a7, a8, a9, a10, a11, a12, a13, a14, a15, a16, a17, rfl, a19, a20, a21, a22, a23⟩, RCr_keep r2 rfl rfl rfl rfl, r3.dyn (dyn_L w _ _ _) rfl rfl, r4.L _ _ (by decide)⟩
theorem RC.z3 (R : RC e u th w X) : RC e u th (yuL w 1000 11 0) (xN0 X 3) := by
  obtain ⟨⟨a1, a2, a3, a4, a5, a6, a7, a8, a9, a10, a11, a12, a13, a14, a15, a16, a17, a18, a19, a20, a21, a22, a23⟩, r2, r3, r4⟩ := R
  exact ⟨⟨a1, a2, a3, a4, a5, a6, a7, a8, a9, a10, a11, a12, a13, a14, a15, a16, a17, a18, rfl, a20, a21, a22, a23⟩, RCr_keep r2 rfl rfl rfl rfl, r3.dyn (dyn_L w _ _ _) rfl rfl, r4.L _ _ (by decide)⟩
theorem RC.z4 (R : RC e u th w X) : RC e u th (yuL w 1000 12 0) (xN0 X 4) := by
  obtain ⟨⟨a1, a2, a3, a4, a5, a6, a7, a8, a9, a10, a11, a12, a13, a14, a15, a16, a17, a18, a19, a20, a21, a22, a23⟩, r2, r3, r4⟩ := R
  exact ⟨⟨a1, a2, a3, a4, a5, a6, a7, a8, a9, a10, a11, a12, a13, a14, a15, a16, a17, a18, a19, rfl, a21, a22, a23⟩, RCr_keep r2 rfl rfl rfl rfl, r3.dyn (dyn_L w _ _ _) rfl rfl, r4.L _ _ (by decide)⟩
theorem xReset_eq (X : xs) : (xN0 (xN0 (xN0 (xN0 (xN0 (xsCu (xsHe (xsR (xClr (xsSt (xLoc0 (xsA (xCode0 X) (a0 (xA (xCode0 X))))) 0) 200) none) (zmem (xHe (xsR (xClr (xsSt (xLoc0 (xsA (xCode0 X) (a0 (xA (xCode0 X))))) 0) 200) none)) 200)) (zmem (xCu (xsHe (xsR (xClr (xsSt (xLoc0 (xsA (xCode0 X) (a0 (xA (xCode0 X))))) 0) 200) none) (zmem (xHe (xsR (xClr (xsSt (xLoc0 (xsA (xCode0 X) (a0 (xA (xCode0 X))))) 0) 200) none)) 200))) 200)) 0) 1) 2) 3) 4) = xReset X := rfl
theorem yk_1001 (w : zm) : yk w 1001 = some (.inr (0, 200)) := rfl
theorem yk_1002 (w : zm) : yk w 1002 = some (.inr (0, 200)) := rfl
theorem yk_1008 (w : zm) : yk w 1008 = some (.inr (0, 16)) := rfl
theorem yk_1011 (w : zm) : yk w 1011 = some (.inr (0, 32)) := rfl
theorem l_reset {G : zm → Prop} (C : CW th u w X) (k : ∀ w', CW th (uX u) w' (xReset X) → mkp w w' → G w') : zGo (d + 3) m_X8_reset 0 [.ref 1000] [] (yz w) (zKv G) := by
  refine B_X8_reset_0 (B_X0_clear_0 ?_)
  have R1 := C.rc.code0
  generalize yuI (yuI w 1003 3 0) 1003 4 (-1) = w1 at R1 ⊢
  refine c1_begin R1 (yk_1011 _) (fun w2 R2 => ?_)
  refine c7_fill 0 (yk_1008 _) rfl (by decide) ?_
  have R3 := R2.loc0
  generalize yuR w2 1008 (fun i => if i < 16 then 0 else yA w2 1008 i) = w3 at R3 ⊢
  have R4 := R3.st 0 rfl
  generalize yuI w3 1007 5 0 = w33 at R4 ⊢
  refine c6_clear R4 (fun w4 R5 => c4_drop R5 (fun w5 R6 => ?_))
  refine c7_fill 0 (yk_1001 _) rfl (by decide) ?_
  have R7 := R6.heat0
  generalize yuR w5 1001 (fun i => if i < 200 then 0 else yA w5 1001 i) = w6 at R7 ⊢
  refine c7_fill 0 (yk_1002 _) rfl (by decide) ?_
  have R8 := R7.cuts0
  generalize yuR w6 1002 (fun i => if i < 200 then 0 else yA w6 1002 i) = w7 at R8 ⊢
  have R9 := R8.z0.z1.z2.z3.z4
  rw [xReset_eq] at R9
  exact k _ (CW.more R9.cw) R9.2.2.2.mk
theorem xReset_ok (O : xOk N X) : xOk 0 (xReset X) ∧ ∀ a, xT (xReset X) a = none := by
  have hn : ∀ a, xT (xReset X) a = none := by
    intro a
    show (if a < 200 then none else xT X a) = none
    by_cases c : a < 200
    · rw [if_pos c]
    · rw [if_neg c]
      cases hT : xT X a with
      | none => rfl
      | some T =>
        obtain ⟨H, V, -, ha⟩ := O.tok hT
        have := V.2.1
        omega
  exact ⟨⟨by show 0 ≤ 200; decide, by show 0 ≤ 4; decide, rfl, Nat.le_refl 0, by show 0 < 200; decide, by show 0 ≤ 16; decide, fun _ => ⟨hn, rfl⟩, fun z => absurd rfl z⟩, hn⟩
theorem q_reset {G : zm → Prop} (h0 : sI s 0 = Int32.ofNat th) (h32 : sA s 1032 = xC X) (h33 : sA s 1033 = (xA X).2.2.2.2.2.1) (h34 : sA s 1034 = (xA X).2.2.2.2.1) (h35 : sA s 1035 = (xA X).2.2.2.2.2.2.1) (h36 : sA s 1036 = (xA X).2.2.2.2.2.2.2) (h37 : sA s 1037 = xHe X) (h38 : sA s 1038 = xCu X) (hn : ∀ a, xT (xReset X) a = none) (k : ∀ s', RM th 0 s' (xReset X) → G (put c s')) : zGo d m_X9_reset 0 [.ref 1031, zJ] [] (yz (put c s)) (zKv G) := by
  refine B_X9_reset_0 ?_
  rw [p_I, p_I, p_I, p_I, p_I, p_I, p_I, p_L, p_L, p_L, p_L, p_L, p_L, p_I, p_I]
  have fI : ∀ s1 : ms, (∀ b, sI s1 b = y1 (y1 (y1 (y1 (y1 (y1 (y1 (y1 (y1 s.1 1 0) 2 0) 3 0) 5 (-1)) 6 0) 9 0) 12 0) 19 0) 42 (-1) b) → (∀ b, sL s1 b = y1 (y1 (y1 (y1 (y1 (y1 s.2.1 13 0) 14 0) 15 0) 16 0) 17 0) 18 0 b) → sA s1 1032 = xC X → sA s1 1033 = zmem (xA X).2.2.2.2.2.1 16 → sA s1 1034 = (xA X).2.2.2.2.1 → sA s1 1035 = zmem (xA X).2.2.2.2.2.2.1 32 → sA s1 1036 = (xA X).2.2.2.2.2.2.2 → sA s1 1037 = zmem (xHe X) 200 → sA s1 1038 = zmem (xCu X) 200 → (∀ t, t < 16 → sA s1 1039 t = -1) → G (put c s1) := by
    intro s1 hI hL g32 g33 g34 g35 g36 g37 g38 g39
    refine k s1 ⟨fun _ => none, ⟨hI 6, hI 9, hI 12, hL 13, g34, g33, g35, g36, Nat.zero_le _, hI 3, g32, hI 5, hI 2, g37, g38, hL 14, hL 15, hL 16, hL 17, hL 18, (hI 0).trans h0, hI 19, hI 1⟩, hI 42, g39, fun t t' a _ _ h => (by cases h), fun t a _ h => (by cases h), fun a T h => ?_, ?_⟩
    · rw [hn a] at h
      cases h
    · have e1 : cN (fun _ => (none : Option Nat).isSome) 16 = 0 := rfl
      have e2 : xMany (xReset X) = 0 := by
        have : ∀ n, cN (fun a => (xT (xReset X) a).isSome) n = 0 := by
          intro n
          induction n with
          | zero => rfl
          | succ n ih =>
            show cN (fun a => (xT (xReset X) a).isSome) n + (if (xT (xReset X) n).isSome = true then 1 else 0) = 0
            rw [ih, hn n]
            rfl
        exact this 200
      rw [e2]
      exact e1
  have loop3 : ∀ (j i : Nat) (s1 : ms), i + j = 200 → (∀ b, sI s1 b = y1 (y1 (y1 (y1 (y1 (y1 (y1 (y1 (y1 s.1 1 0) 2 0) 3 0) 5 (-1)) 6 0) 9 0) 12 0) 19 0) 42 (-1) b) → (∀ b, sL s1 b = y1 (y1 (y1 (y1 (y1 (y1 s.2.1 13 0) 14 0) 15 0) 16 0) 17 0) 18 0 b) → sA s1 1032 = xC X → sA s1 1033 = zmem (xA X).2.2.2.2.2.1 16 → sA s1 1034 = (xA X).2.2.2.2.1 → sA s1 1035 = zmem (xA X).2.2.2.2.2.2.1 32 → sA s1 1036 = (xA X).2.2.2.2.2.2.2 → sA s1 1037 = zmem (xHe X) i → sA s1 1038 = zmem (xCu X) i → (∀ t, t < 16 → sA s1 1039 t = -1) → zGo d m_X9_reset 126 [.ref 1031, .int (Int32.ofNat i)] [] (yz (put c s1)) (zKv G) := by
    intro j
    induction j with
    | zero =>
      intro i s1 hi hI hL g32 g33 g34 g35 g36 g37 g38 g39
      have hi : i = 200 := by omega
      subst hi
      refine B_X9_reset_126 _ ?_
      rw [n_lit 200, n_lt (by omega) (by decide)]
      exact ⟨fun z => absurd z (by omega), fun _ => fI s1 hI hL g32 g33 g34 g35 g36 g37 g38 g39⟩
    | succ j ih =>
      intro i s1 hi hI hL g32 g33 g34 g35 g36 g37 g38 g39
      refine B_X9_reset_126 _ ?_
      rw [n_lit 200, n_lt (by omega) (by decide), n_cl (by omega), p_A _ _ _ _ _ rfl, p_A _ _ _ _ _ rfl, show (Int32.ofNat i + 1 : Int32) = Int32.ofNat (i + 1) from n_add _ 1]
      refine ⟨fun _ => ⟨n_in (by omega) (by decide), n_in (by omega) (by decide), ih (i + 1) _ (by omega) hI hL g32 g33 g34 g35 g36 ?_ ?_ g39⟩, fun z => absurd (by omega) z⟩
      · show upd (sA s1 1037) i 0 = _
        rw [g37, zmem_step]
      · show upd (sA s1 1038) i 0 = _
        rw [g38, zmem_step]
  have loop2 : ∀ (j i : Nat) (s1 : ms), i + j = 32 → (∀ b, sI s1 b = y1 (y1 (y1 (y1 (y1 (y1 (y1 (y1 (y1 s.1 1 0) 2 0) 3 0) 5 (-1)) 6 0) 9 0) 12 0) 19 0) 42 (-1) b) → (∀ b, sL s1 b = y1 (y1 (y1 (y1 (y1 (y1 s.2.1 13 0) 14 0) 15 0) 16 0) 17 0) 18 0 b) → sA s1 1032 = xC X → sA s1 1033 = zmem (xA X).2.2.2.2.2.1 16 → sA s1 1034 = (xA X).2.2.2.2.1 → sA s1 1035 = zmem (xA X).2.2.2.2.2.2.1 i → sA s1 1036 = (xA X).2.2.2.2.2.2.2 → sA s1 1037 = xHe X → sA s1 1038 = xCu X → (∀ t, t < 16 → sA s1 1039 t = -1) → zGo d m_X9_reset 105 [.ref 1031, .int (Int32.ofNat i)] [] (yz (put c s1)) (zKv G) := by
    intro j
    induction j with
    | zero =>
      intro i s1 hi hI hL g32 g33 g34 g35 g36 g37 g38 g39
      have hi : i = 32 := by omega
      subst hi
      refine B_X9_reset_105 _ ?_
      rw [n_lit 32, n_lt (by omega) (by decide)]
      exact ⟨fun z => absurd z (by omega), fun _ => loop3 200 0 s1 (by omega) hI hL g32 g33 g34 g35 g36 (by rw [zmem_0]; exact g37) (by rw [zmem_0]; exact g38) g39⟩
    | succ j ih =>
      intro i s1 hi hI hL g32 g33 g34 g35 g36 g37 g38 g39
      refine B_X9_reset_105 _ ?_
      rw [n_lit 32, n_lt (by omega) (by decide), n_cl (by omega), p_A _ _ _ _ _ rfl, show (Int32.ofNat i + 1 : Int32) = Int32.ofNat (i + 1) from n_add _ 1]
      refine ⟨fun _ => ⟨n_in (by omega) (by decide), ih (i + 1) _ (by omega) hI hL g32 g33 g34 ?_ g36 g37 g38 g39⟩, fun z => absurd (by omega) z⟩
      show upd (sA s1 1035) i 0 = _
      rw [g35, zmem_step]
  have loop1 : ∀ (j i : Nat) (s1 : ms), i + j = 16 → (∀ b, sI s1 b = y1 (y1 (y1 (y1 (y1 (y1 (y1 (y1 (y1 s.1 1 0) 2 0) 3 0) 5 (-1)) 6 0) 9 0) 12 0) 19 0) 42 (-1) b) → (∀ b, sL s1 b = y1 (y1 (y1 (y1 (y1 (y1 s.2.1 13 0) 14 0) 15 0) 16 0) 17 0) 18 0 b) → sA s1 1032 = xC X → sA s1 1033 = zmem (xA X).2.2.2.2.2.1 i → sA s1 1034 = (xA X).2.2.2.2.1 → sA s1 1035 = (xA X).2.2.2.2.2.2.1 → sA s1 1036 = (xA X).2.2.2.2.2.2.2 → sA s1 1037 = xHe X → sA s1 1038 = xCu X → (∀ t, t < i → sA s1 1039 t = -1) → zGo d m_X9_reset 77 [.ref 1031, .int (Int32.ofNat i)] [] (yz (put c s1)) (zKv G) := by
    intro j
    induction j with
    | zero =>
      intro i s1 hi hI hL g32 g33 g34 g35 g36 g37 g38 g39
      have hi : i = 16 := by omega
      subst hi
      refine B_X9_reset_77 _ ?_
      rw [n_lit 16, n_lt (by omega) (by decide)]
      exact ⟨fun z => absurd z (by omega), fun _ => loop2 32 0 s1 (by omega) hI hL g32 g33 g34 (by rw [zmem_0]; exact g35) g36 g37 g38 g39⟩
    | succ j ih =>
      intro i s1 hi hI hL g32 g33 g34 g35 g36 g37 g38 g39
      refine B_X9_reset_77 _ ?_
      rw [n_lit 16, n_lt (by omega) (by decide), n_cl (by omega), p_A _ _ _ _ _ rfl, p_A _ _ _ _ _ rfl, show (Int32.ofNat i + 1 : Int32) = Int32.ofNat (i + 1) from n_add _ 1]
      refine ⟨fun _ => ⟨n_in (by omega) (by decide), n_in (by omega) (by decide), ih (i + 1) _ (by omega) hI hL g32 ?_ g34 g35 g36 g37 g38 (fun t ht => ?_)⟩, fun z => absurd (by omega) z⟩
      · show upd (sA s1 1033) i 0 = _
        rw [g33, zmem_step]
      · show upd (sA s1 1039) i (-1) t = -1
        by_cases c : t = i
        · rw [c, upd_same]
        · rw [upd_ne _ _ c]
          exact g39 t (by omega)
  exact loop1 16 0 _ (by omega) (fun _ => rfl) (fun _ => rfl) h32 (by rw [zmem_0]; exact h33) h34 h35 h36 h37 h38 (fun t ht => absurd ht (Nat.not_lt_zero t))
end RST
