/-! class and model side by side -/
def sOf (w : zm) : ms := (yI w 1031, yL w 1031, yA w)
theorem put_sOf (w : zm) : put w (sOf w) = w := by
  have e1 : (fun q j => bif Nat.beq q 1031 then yI w 1031 j else yI w q j) = yI w := by
    funext q j
    by_cases h : q = 1031
    · rw [h]; rfl
    · rw [ybeq h]; rfl
  have e2 : (fun q j => bif Nat.beq q 1031 then yL w 1031 j else yL w q j) = yL w := by
    funext q j
    by_cases h : q = 1031
    · rw [h]; rfl
    · rw [ybeq h]; rfl
  have e3 : (fun q => bif yrM q then yA w q else yA w q) = yA w := by
    funext q
    cases yrM q <;> rfl
  show (ySz w, ySl w, yK w, (fun q j => bif Nat.beq q 1031 then yI w 1031 j else yI w q j), (fun q j => bif Nat.beq q 1031 then yL w 1031 j else yL w q j), yF w, (fun q => bif yrM q then yA w q else yA w q), yB w, yQ w) = w
  rw [e1, e2, e3]
  rfl
section CONG
variable {th : Nat} {pn : Int32} {s s' : ms} {X : xs} {u u' : Nat × Nat} {w e : zm}
/-- what the model holds, but for what it threw -/
def RQ (th : Nat) (s : ms) (X : xs) : Prop := RM th 0 (tI s 1 0) X
theorem RQ.cong (R : RQ th s X) (hI : ∀ b, b ≠ 1 → sI s' b = sI s b) (hL : sL s' = sL s) (hA : ∀ q, yrM q = true → sA s' q = sA s q) : RQ th s' X := by
  have hI1 : sI (tI s' 1 0) = sI (tI s 1 0) := by
    funext b
    show y1 (sI s') 1 0 b = y1 (sI s) 1 0 b
    by_cases e : b = 1
    · rw [e, y1_same, y1_same]
    · rw [y1_ne _ _ e, y1_ne _ _ e, hI b e]
  obtain ⟨sl, ⟨a1, a2, a3, a4, a5, a6, a7, a8, a9, a10, a11, a12, a13, a14, a15, a16, a17, a18, a19, a20, a21, a22, a23⟩, Rr, Rt⟩ := R
  have hL1 : ∀ b, sL (tI s' 1 0) b = sL (tI s 1 0) b := fun b => congrFun hL b
  have hA1 : ∀ q, yrM q = true → sA (tI s' 1 0) q = sA (tI s 1 0) q := hA
  refine ⟨sl, ⟨by rw [hI1]; exact a1, by rw [hI1]; exact a2, by rw [hI1]; exact a3, (hL1 _).trans a4, (hA1 _ rfl).trans a5, (hA1 _ rfl).trans a6, (hA1 _ rfl).trans a7, (hA1 _ rfl).trans a8, a9, by rw [hI1]; exact a10, (hA1 _ rfl).trans a11, by rw [hI1]; exact a12, by rw [hI1]; exact a13, (hA1 _ rfl).trans a14, (hA1 _ rfl).trans a15, (hL1 _).trans a16, (hL1 _).trans a17, (hL1 _).trans a18, (hL1 _).trans a19, (hL1 _).trans a20, by rw [hI1]; exact a21, by rw [hI1]; exact a22, by rw [hI1]; exact a23⟩, RMr_keep Rr (by rw [hI1]) (by rw [hI1]) (by rw [hI1]) (by rw [hI1]) (by rw [hI1]) (hA1 _ rfl) (hA1 _ rfl), Rt.keep (fun p h1 h2 => hA1 p ?_) rfl rfl⟩
  unfold yrM
  rw [Bool.and_eq_true]
  exact ⟨Nat.ble_eq_true_of_le (by omega), Nat.ble_eq_true_of_le (by omega)⟩
theorem RM.rq (R : RM th 0 s X) : RQ th s X := by
  have e : tI s 1 0 = s := by
    obtain ⟨sl, Ra, -⟩ := R
    have h : s.1 1 = 0 := Ra.2.2.2.2.2.2.2.2.2.2.2.2.2.2.2.2.2.2.2.2.2.2
    show (y1 s.1 1 0, s.2.1, s.2.2) = s
    rw [← h, y1_id]
  unfold RQ
  rw [e]
  exact R
theorem RQ.st2 {c : zm} (R : RQ th s X) : yI (put c s) 1031 2 = Int32.ofNat (xSt X) := RM.st2 (c := c) (s := tI s 1 0) R
/-- the class's part -/
def CW (th : Nat) (u : Nat × Nat) (w : zm) (X : xs) : Prop := RCa th w X ∧ RCr (xC X) w (xR X) ∧ RCt u w X
theorem CW.rc (C : CW th u w X) : RC w u th w X := ⟨C.1, C.2.1, C.2.2, kp.rf w⟩
theorem RC.cw (R : RC e u th w X) : CW th u w X := ⟨R.1, R.2.1, R.2.2.1⟩
theorem RCa.put (R : RCa th w X) (s : ms) : RCa th (put w s) X := by
  obtain ⟨a1, a2, a3, a4, a5, a6, a7, a8, a9, a10, a11, a12, a13, a14, a15, a16, a17, a18, a19, a20, a21, a22, a23⟩ := R
  exact ⟨a1, a2, a3, a4, a5, a6, a7, a8, a9, a10, a11, a12, a13, a14, a15, a16, a17, a18, a19, a20, a21, a22, a23⟩
theorem CW.put (C : CW th u w X) (s : ms) : CW th u (put w s) X := ⟨C.1.put s, RCr_keep C.2.1 rfl rfl rfl rfl, C.2.2.dyn (dyn_put w s) rfl rfl⟩
theorem CW.B (C : CW th u w X) (p i : Nat) (v : Int64) : CW th u (yuB w p i v) X := by
  obtain ⟨⟨a1, a2, a3, a4, a5, a6, a7, a8, a9, a10, a11, a12, a13, a14, a15, a16, a17, a18, a19, a20, a21, a22, a23⟩, r2, r3⟩ := C
  exact ⟨⟨a1, a2, a3, a4, a5, a6, a7, a8, a9, a10, a11, a12, a13, a14, a15, a16, a17, a18, a19, a20, a21, a22, a23⟩, RCr_keep r2 rfl rfl rfl rfl, r3.dyn (dyn_B w p i v) rfl rfl⟩
theorem RCt.more (R : RCt u w X) (h1 : u.1 ≤ u'.1) (h2 : u.2 ≤ u'.2) : RCt u' w X := by
  obtain ⟨nT, tp, loc, sc, O, r2, r3, r4, r5, r6, r7⟩ := R
  exact ⟨nT, tp, loc, sc, O, r2, r3, r4, r5, by omega, by omega⟩
/-- after a throw -/
def uX (u : Nat × Nat) : Nat × Nat := (u.1 + 1, u.2 + 6)
theorem CW.more (C : CW th u w X) : CW th (uX u) w X := ⟨C.1, C.2.1, C.2.2.more (Nat.le_succ _) (by show u.2 ≤ u.2 + 6; omega)⟩
theorem CW.thr (C : CW th u w X) : CW th (uX u) (yuX w) X := by
  obtain ⟨⟨a1, a2, a3, a4, a5, a6, a7, a8, a9, a10, a11, a12, a13, a14, a15, a16, a17, a18, a19, a20, a21, a22, a23⟩, r2, r3⟩ := C
  refine ⟨⟨a1, a2, a3, a4, a5, a6, a7, a8, a9, a10, a11, a12, a13, a14, a15, a16, a17, a18, a19, a20, a21, a22, a23⟩, RCr_keep r2 rfl rfl rfl rfl, ?_⟩
  obtain ⟨nT, tp, loc, sc, ⟨o1, o2, o3, o4, o5, o6, o7, o8, o9⟩, r2, r3, r4, r5, r6, r7⟩ := r3
  refine ⟨nT, tp, loc, sc, ⟨o1, by show yTop ≤ ySz w + 1; omega, fun i hi => ?_, o4, fun i j q hi hj h => ?_, o6, o7, o8, o9⟩, r2, r3, r4, r5, ?_, ?_⟩
  · obtain ⟨z1, z2⟩ := o3 i hi
    exact ⟨yT_of rfl rfl z1, by show tp i + 9 < ySz w + 1; omega⟩
  · obtain ⟨z1, z2, z3⟩ := o5 i j q hi hj h
    exact ⟨yP_of rfl rfl z1, by show q + 4 < ySz w + 1; omega, z3⟩
  · show ySz w + 1 ≤ u.1 + 1 + 10 * nT + 5 * bN w nT tp
    omega
  · show ySl w + 6 ≤ u.2 + 6 + 358 * nT + 201 * bN w nT tp
    omega
/-- what is not the class's stays, but for the answer -/
def mkp (e w : zm) : Prop := yI w 1031 = yI e 1031 ∧ yL w 1031 = yL e 1031 ∧ (∀ q, yrM q = true → yA w q = yA e q) ∧ yA w 0 = yA e 0 ∧ yK w 0 = yK e 0
theorem kp.mk (K : kp e w) : mkp e w := ⟨K.1, K.2.1, K.2.2.1, K.2.2.2.1, K.2.2.2.2.1⟩
theorem mkp.B (K : mkp e w) (p i : Nat) (v : Int64) : mkp e (yuB w p i v) := K
theorem mkp.thr (K : mkp e w) : mkp e (yuX w) := K
theorem mkp.rm (K : mkp e w) (R : RQ th (sOf e) X) : RQ th (sOf w) X := R.cong (fun b _ => by show yI w 1031 b = yI e 1031 b; rw [K.1]) K.2.1 K.2.2.1
end CONG
/-- all that is so between two calls -/
def LW (th ns : Nat) (u : Nat × Nat) (N : Nat) (w : zm) (X : xs) : Prop := CW th u w X ∧ RQ th (sOf w) X ∧ xOk N X ∧ yk w 0 = some (.inr (9, ns))
/-- what the law's call of the class must give: its code, its answer -/
def lres (th : Nat) (u : Nat × Nat) (e : zm) (X' : xs) (kc : Int32) (v : Int64) (F : Int32 → zm → Prop) : Prop := ∀ w', CW th u w' X' → mkp e w' → (kc = 0 → yB w' 1076 0 = v) → F kc w'
def mres (th : Nat) (c : zm) (X' : xs) (kc v : Int32) (F : Int32 → zm → Prop) : Prop := ∀ s' vm, RQ th s' X' → sI s' 1 = kc → (kc = 0 → vm = v) → F vm (put c s')
theorem lg_same (x : Int64) : lg_cmp x x = 0 := by
  unfold lg_cmp
  rw [if_neg (by show ¬ x < x; exact Int64.lt_irrefl), if_pos rfl]
section LWS
variable {d th ns : Nat} {u : Nat × Nat} {N N' : Nat} {w : zm} {X X' : xs}
theorem LW.next {w5 : zm} {s' : ms} (L : LW th ns u N w X) (C : CW th u w5 X') (K : mkp w w5) (R : RQ th s' X') (O : xOk N' X') : LW th ns u N' (put w5 s') X' := by
  refine ⟨C.put s', R.cong (fun _ _ => rfl) rfl (fun q hq => ?_), O, ?_⟩
  · show (bif yrM q then sA s' q else yA w5 q) = sA s' q
    rw [hq]
    rfl
  · have h0 := L.2.2.2
    show yK w5 0 = _
    rw [K.2.2.2.2]
    exact h0
/-- behind both calls: the comparison -/
theorem law_tail {F : Int32 → zm → Prop} {w5 : zm} {s' : ms} {v6 v11 : Int32} {v : Int32} {g : zm → Prop} (h1 : sI s' 1 = v6) (hv : v6 = 0 → v11 = v) (hB : v6 = 0 → yB w5 1076 0 = v.toInt64) (k : g (put w5 s')) :
    zGo d m_X9_thrown 0 [.ref 1031] [] (yz (put w5 s')) (zKi fun v13 w12 => ((v13 = v6 → ((v6 = 0 → (((lg_cmp (yB w12 1076 (Int32.toNatClampNeg (0 : Int32))) (Int32.toInt64 v11)) = 0 → g w12) ∧ (¬ (lg_cmp (yB w12 1076 (Int32.toNatClampNeg (0 : Int32))) (Int32.toInt64 v11)) = 0 → F (0 : Int32) w12))) ∧ (¬ v6 = 0 → g w12))) ∧ (¬ v13 = v6 → F (0 : Int32) w12))) := by
  refine B_X9_thrown_0 ?_
  refine ⟨fun _ => ⟨fun z => ⟨fun _ => k, fun q => absurd ?_ q⟩, fun _ => k⟩, fun z => absurd h1 z⟩
  have e : yB (put w5 s') 1076 (Int32.toNatClampNeg (0 : Int32)) = v.toInt64 := hB z
  rw [e, hv z, lg_same]
end LWS
