/-! what the class's memory holds of the state -/
def RCa (th : Nat) (w : zm) (X : xs) : Prop := yI w 1007 6 = Int32.ofNat (xA X).1 ∧ yI w 1009 1 = Int32.ofNat (xA X).2.1 ∧ yI w 1007 7 = Int32.ofNat (xA X).2.2.1 ∧ yL w 1007 8 = (xA X).2.2.2.1 ∧ yA w 1010 = (xA X).2.2.2.2.1 ∧ yA w 1008 = (xA X).2.2.2.2.2.1 ∧ yA w 1011 = (xA X).2.2.2.2.2.2.1 ∧ yA w 1012 = (xA X).2.2.2.2.2.2.2 ∧
  xM X ≤ 200 ∧ yI w 1003 3 = Int32.ofNat (xM X) ∧ yA w 1004 = xC X ∧ yI w 1003 4 = xF X ∧ yI w 1007 5 = Int32.ofNat (xSt X) ∧ yA w 1001 = xHe X ∧ yA w 1002 = xCu X ∧
  yL w 1000 8 = xN X 0 ∧ yL w 1000 9 = xN X 1 ∧ yL w 1000 10 = xN X 2 ∧ yL w 1000 11 = xN X 3 ∧ yL w 1000 12 = xN X 4 ∧ yI w 1000 0 = Int32.ofNat th ∧
  (∀ o, o ≤ 26 → yA w 1 o = Int32.ofNat (tk o) ∧ yA w 2 o = Int32.ofNat (pt o)) ∧ (∀ i, i < 32 → yA w 1018 i = -1)
def RCr (cd : Nat → Int32) (w : zm) : Option rk → Prop
  | none => yI w 1025 1 = -1 ∧ yI w 1025 2 = -1
  | some r => r.1 < 200 ∧ (∀ k, r.2.1 = some k → k < 48) ∧ yI w 1025 1 = Int32.ofNat r.1 ∧ yI w 1025 2 = vov r.2.1 ∧ yI w 1026 4 = Int32.ofNat (pLn r.2.2) ∧ yI w 1026 5 = Int32.ofNat (pHt r.2.2) ∧ yI w 1026 6 = 0 ∧ yI w 1026 7 = 0 ∧ yI w 1026 8 = 0 ∧
    (∀ i, i < pLn r.2.2 → yA w 1027 i = Int32.ofNat (pAd r.2.2 i)) ∧ (∀ i, i < pLn r.2.2 → (aop cd (pAd r.2.2 i) = 22 ∨ aop cd (pAd r.2.2 i) = 23) → (yA w 1028 i = 1 ↔ pGo r.2.2 i = 0))
/-- what is not the class's stays -/
def kp (e w : zm) : Prop := yI w 1031 = yI e 1031 ∧ yL w 1031 = yL e 1031 ∧ (∀ q, yrM q = true → yA w q = yA e q) ∧ yA w 0 = yA e 0 ∧ yK w 0 = yK e 0 ∧ yB w 1076 = yB e 1076
def RC (e : zm) (u : Nat × Nat) (th : Nat) (w : zm) (X : xs) : Prop := RCa th w X ∧ RCr (xC X) w (xR X) ∧ RCt u w X ∧ kp e w
theorem kp.rf (e : zm) : kp e e := ⟨rfl, rfl, fun _ _ => rfl, rfl, rfl, rfl⟩
section KP
variable {e w : zm}
theorem kp.trans {e' : zm} (h : kp e w) (k : kp e' e) : kp e' w := by
  obtain ⟨h1, h2, h3, h4, h5, h6⟩ := h
  obtain ⟨k1, k2, k3, k4, k5, k6⟩ := k
  exact ⟨h1.trans k1, h2.trans k2, fun q hq => (h3 q hq).trans (k3 q hq), h4.trans k4, h5.trans k5, h6.trans k6⟩
theorem kp.I (K : kp e w) {p : Nat} (b : Nat) (v : Int32) (h : p ≠ 1031) : kp e (yuI w p b v) := by
  obtain ⟨k1, k2, k3, k4, k5, k6⟩ := K
  exact ⟨(y2_row _ _ h.symm).trans k1, k2, k3, k4, k5, k6⟩
theorem kp.L (K : kp e w) {p : Nat} (b : Nat) (v : Int64) (h : p ≠ 1031) : kp e (yuL w p b v) := by
  obtain ⟨k1, k2, k3, k4, k5, k6⟩ := K
  exact ⟨k1, (y2_row _ _ h.symm).trans k2, k3, k4, k5, k6⟩
theorem kp.R (K : kp e w) {p : Nat} (f : Nat → Int32) (h : yrM p = false) (h0 : p ≠ 0) : kp e (yuR w p f) := by
  obtain ⟨k1, k2, k3, k4, k5, k6⟩ := K
  refine ⟨k1, k2, fun q hq => (y1_ne _ _ (fun z => ?_)).trans (k3 q hq), (y1_ne _ _ (by omega)).trans k4, k5, k6⟩
  rw [z, h] at hq
  cases hq
theorem kp.A (K : kp e w) {p : Nat} (i : Nat) (v : Int32) (h : yrM p = false) (h0 : p ≠ 0) : kp e (yuA w p i v) := K.R _ h h0
theorem kp.Q (K : kp e w) (p i : Nat) (v : Option Nat) : kp e (yuQ w p i v) := K
theorem kp.putm (K : kp e w) (a : am) : kp e (putm w a) := by
  obtain ⟨k1, k2, k3, k4, k5, k6⟩ := K
  refine ⟨?_, ?_, fun q hq => ?_, k4, k5, k6⟩
  · show y2 (y2 (y2 (yI w) 1007 6 _) 1007 7 _) 1009 1 _ 1031 = _
    rw [y2_row _ _ (by decide), y2_row _ _ (by decide), y2_row _ _ (by decide)]
    exact k1
  · show y2 (yL w) 1007 8 _ 1031 = _
    rw [y2_row _ _ (by decide)]
    exact k2
  · show y1 (y1 (y1 (y1 (yA w) 1010 _) 1008 _) 1011 _) 1012 _ q = yA e q
    rw [y1_ne _ _ (fun z => by rw [z] at hq; cases hq), y1_ne _ _ (fun z => by rw [z] at hq; cases hq), y1_ne _ _ (fun z => by rw [z] at hq; cases hq), y1_ne _ _ (fun z => by rw [z] at hq; cases hq)]
    exact k3 q hq
theorem yrM_hi {q : Nat} (h : yTop ≤ q) : yrM q = false := by
  unfold yTop at h
  unfold yrM
  have : Nat.blt q 1076 = false := by
    cases e : Nat.blt q 1076 with
    | false => rfl
    | true => have := Nat.le_of_ble_eq_true e; omega
  rw [this, Bool.and_false]
end KP
/-- only traces have changed -/
def fixd (w w' : zm) : Prop := (∀ q, q < yTop → q ≠ 1022 → yI w' q = yI w q) ∧ (∀ q, q < yTop → yL w' q = yL w q) ∧ (∀ q, q < yTop → yA w' q = yA w q) ∧ yB w' 1076 = yB w 1076 ∧ yK w' 0 = yK w 0
theorem fixd.rf (w : zm) : fixd w w := ⟨fun _ _ _ => rfl, fun _ _ => rfl, fun _ _ => rfl, rfl, rfl⟩
theorem fixd.trans {w w' w'' : zm} (h : fixd w w') (k : fixd w' w'') : fixd w w'' := by
  obtain ⟨h1, h2, h3, h4, h5⟩ := h
  obtain ⟨k1, k2, k3, k4, k5⟩ := k
  exact ⟨fun q a b => (k1 q a b).trans (h1 q a b), fun q a => (k2 q a).trans (h2 q a), fun q a => (k3 q a).trans (h3 q a), k4.trans h4, k5.trans h5⟩
theorem fixd_I (w : zm) {p : Nat} (b : Nat) (v : Int32) (h : yTop ≤ p ∨ p = 1022) : fixd w (yuI w p b v) := ⟨fun q a c => y2_row _ _ (by omega), fun _ _ => rfl, fun _ _ => rfl, rfl, rfl⟩
theorem fixd_R (w : zm) {p : Nat} (f : Nat → Int32) (h : yTop ≤ p) : fixd w (yuR w p f) := ⟨fun _ _ _ => rfl, fun _ _ => rfl, fun q a => y1_ne _ _ (by omega), rfl, rfl⟩
theorem fixd_A (w : zm) {p : Nat} (i : Nat) (v : Int32) (h : yTop ≤ p) : fixd w (yuA w p i v) := fixd_R w _ h
theorem fixd_Q (w : zm) (p i : Nat) (v : Option Nat) : fixd w (yuQ w p i v) := ⟨fun _ _ _ => rfl, fun _ _ => rfl, fun _ _ => rfl, rfl, rfl⟩
theorem fixd_F (w : zm) (p b : Nat) (v : Option Nat) : fixd w (yuF w p b v) := ⟨fun _ _ _ => rfl, fun _ _ => rfl, fun _ _ => rfl, rfl, rfl⟩
theorem yTop_pos : 0 < yTop := by unfold yTop; decide
theorem fixd_N (w : zm) (n : Nat) (k : Nat ⊕ (Nat × Nat)) (h : yTop ≤ ySz w) : fixd w (yuN w n k) := by
  have h0 := yTop_pos
  have h1 : yTop = 1077 := rfl
  exact ⟨fun q a c => y1_ne _ _ (by omega), fun q a => y1_ne _ _ (by omega), fun q a => y1_ne _ _ (by omega), y1_ne _ _ (by omega), y1_ne _ _ (by omega)⟩

theorem mch_id {w : zm} {a : am} (h1 : yI w 1007 6 = Int32.ofNat a.1) (h2 : yI w 1009 1 = Int32.ofNat a.2.1) (h3 : yI w 1007 7 = Int32.ofNat a.2.2.1) (h4 : yL w 1007 8 = a.2.2.2.1) (h5 : yA w 1010 = a.2.2.2.2.1) (h6 : yA w 1008 = a.2.2.2.2.2.1) (h7 : yA w 1011 = a.2.2.2.2.2.2.1) (h8 : yA w 1012 = a.2.2.2.2.2.2.2) : w = putm w a := by
  unfold putm
  rw [← h1, ← h2, ← h3, ← h4, ← h5, ← h6, ← h7, ← h8, y2_id, y2_id, y2_id, y2_id, y1_id, y1_id, y1_id, y1_id]
  rfl
section RCL
variable {e w : zm} {u : Nat × Nat} {th : Nat} {X : xs}
theorem RC.mid (R : RC e u th w X) : w = putm w (xA X) := by
  obtain ⟨a1, a2, a3, a4, a5, a6, a7, a8, -⟩ := R.1
  exact mch_id a1 a2 a3 a4 a5 a6 a7 a8
theorem RC.code (R : RC e u th w X) : yCd w (xM X) (xC X) := by
  obtain ⟨a1, a2, a3, a4, a5, a6, a7, a8, a9, a10, a11, -⟩ := R.1
  exact ⟨a9, a10, a11⟩
theorem RCr_keep {cd : Nat → Int32} {w w' : zm} {R : Option rk} (h : RCr cd w R) (h1 : yI w' 1025 = yI w 1025) (h2 : yI w' 1026 = yI w 1026) (h3 : yA w' 1027 = yA w 1027) (h4 : yA w' 1028 = yA w 1028) : RCr cd w' R := by
  cases R with
  | none =>
    unfold RCr at *
    rw [h1]
    exact h
  | some r =>
    unfold RCr at *
    rw [h1, h2, h3, h4]
    exact h
theorem RC.fix {w' : zm} {X' : xs} (R : RC e u th w X) (D : fixd w w') (hT : RCt u w' X') (hX : ∃ f, X' = (xM X, xC X, xF X, xSt X, xA X, xHe X, xCu X, xN X, xR X, f)) : RC e u th w' X' := by
  obtain ⟨d1, d2, d3, d4, d5⟩ := D
  obtain ⟨f, hf⟩ := hX
  subst hf
  obtain ⟨⟨a1, a2, a3, a4, a5, a6, a7, a8, a9, a10, a11, a12, a13, a14, a15, a16, a17, a18, a19, a20, a21, a22, a23⟩, r2, -, ⟨k1, k2, k3, k4, k5, k6⟩⟩ := R
  have t : yTop = 1077 := rfl
  refine ⟨⟨?_, ?_, ?_, ?_, ?_, ?_, ?_, ?_, a9, ?_, ?_, ?_, ?_, ?_, ?_, ?_, ?_, ?_, ?_, ?_, ?_, ?_, ?_⟩, ?_, hT, ?_⟩
  · rw [d1 1007 (by omega) (by decide)]; exact a1
  · rw [d1 1009 (by omega) (by decide)]; exact a2
  · rw [d1 1007 (by omega) (by decide)]; exact a3
  · rw [d2 1007 (by omega)]; exact a4
  · rw [d3 1010 (by omega)]; exact a5
  · rw [d3 1008 (by omega)]; exact a6
  · rw [d3 1011 (by omega)]; exact a7
  · rw [d3 1012 (by omega)]; exact a8
  · rw [d1 1003 (by omega) (by decide)]; exact a10
  · rw [d3 1004 (by omega)]; exact a11
  · rw [d1 1003 (by omega) (by decide)]; exact a12
  · rw [d1 1007 (by omega) (by decide)]; exact a13
  · rw [d3 1001 (by omega)]; exact a14
  · rw [d3 1002 (by omega)]; exact a15
  · rw [d2 1000 (by omega)]; exact a16
  · rw [d2 1000 (by omega)]; exact a17
  · rw [d2 1000 (by omega)]; exact a18
  · rw [d2 1000 (by omega)]; exact a19
  · rw [d2 1000 (by omega)]; exact a20
  · rw [d1 1000 (by omega) (by decide)]; exact a21
  · rw [d3 1 (by omega), d3 2 (by omega)]; exact a22
  · rw [d3 1018 (by omega)]; exact a23
  · exact RCr_keep r2 (d1 1025 (by omega) (by decide)) (d1 1026 (by omega) (by decide)) (d3 1027 (by omega)) (d3 1028 (by omega))
  · refine ⟨(d1 1031 (by omega) (by decide)).trans k1, (d2 1031 (by omega)).trans k2, fun q hq => ?_, (d3 0 (by omega)).trans k4, d5.trans k5, d4.trans k6⟩
    refine (d3 q ?_).trans (k3 q hq)
    by_cases c : q < yTop
    · exact c
    · have := yrM_hi (q := q) (by omega)
      rw [this] at hq
      cases hq
theorem RC.st (R : RC e u th w X) (v : Nat) {x : Int32} (hx : x = Int32.ofNat v) : RC e u th (yuI w 1007 5 x) (xsSt X v) := by
  obtain ⟨⟨a1, a2, a3, a4, a5, a6, a7, a8, a9, a10, a11, a12, a13, a14, a15, a16, a17, a18, a19, a20, a21, a22, a23⟩, r2, r3, r4⟩ := R
  exact ⟨⟨a1, a2, a3, a4, a5, a6, a7, a8, a9, a10, a11, a12, hx, a14, a15, a16, a17, a18, a19, a20, a21, a22, a23⟩, RCr_keep r2 (y2_row _ _ (by decide)) (y2_row _ _ (by decide)) rfl rfl, r3.dyn (dyn_I w 5 _ rfl (by decide)) rfl rfl, r4.I 5 _ (by decide)⟩
theorem RC.heat (R : RC e u th w X) (i : Nat) (v : Int32) : RC e u th (yuA w 1001 i v) (xsHe X (upd (xHe X) i v)) := by
  obtain ⟨⟨a1, a2, a3, a4, a5, a6, a7, a8, a9, a10, a11, a12, a13, a14, a15, a16, a17, a18, a19, a20, a21, a22, a23⟩, r2, r3, r4⟩ := R
  refine ⟨⟨a1, a2, a3, a4, a5, a6, a7, a8, a9, a10, a11, a12, a13, ?_, a15, a16, a17, a18, a19, a20, a21, a22, a23⟩, RCr_keep r2 rfl rfl rfl rfl, r3.dyn (dyn_A w i v rfl) rfl rfl, r4.A i v rfl (by decide)⟩
  show upd (yA w 1001) i v = upd (xHe X) i v
  rw [a14]
theorem RC.cuts (R : RC e u th w X) (i : Nat) (v : Int32) : RC e u th (yuA w 1002 i v) (xsCu X (upd (xCu X) i v)) := by
  obtain ⟨⟨a1, a2, a3, a4, a5, a6, a7, a8, a9, a10, a11, a12, a13, a14, a15, a16, a17, a18, a19, a20, a21, a22, a23⟩, r2, r3, r4⟩ := R
  refine ⟨⟨a1, a2, a3, a4, a5, a6, a7, a8, a9, a10, a11, a12, a13, a14, ?_, a16, a17, a18, a19, a20, a21, a22, a23⟩, RCr_keep r2 rfl rfl rfl rfl, r3.dyn (dyn_A w i v rfl) rfl rfl, r4.A i v rfl (by decide)⟩
  show upd (yA w 1002) i v = upd (xCu X) i v
  rw [a15]
theorem RC.mach (R : RC e u th w X) (a : am) : RC e u th (putm w a) (xsA X a) := by
  obtain ⟨⟨a1, a2, a3, a4, a5, a6, a7, a8, a9, a10, a11, a12, a13, a14, a15, a16, a17, a18, a19, a20, a21, a22, a23⟩, r2, r3, r4⟩ := R
  refine ⟨⟨rfl, rfl, rfl, rfl, rfl, rfl, rfl, rfl, a9, a10, a11, a12, a13, a14, a15, a16, a17, a18, a19, a20, a21, a22, a23⟩, RCr_keep r2 ?_ ?_ rfl rfl, r3.dyn (dyn_putm w a) rfl rfl, r4.putm a⟩
  · show y2 (y2 (y2 (yI w) 1007 6 _) 1007 7 _) 1009 1 _ 1025 = _
    rw [y2_row _ _ (by decide), y2_row _ _ (by decide), y2_row _ _ (by decide)]
  · show y2 (y2 (y2 (yI w) 1007 6 _) 1007 7 _) 1009 1 _ 1026 = _
    rw [y2_row _ _ (by decide), y2_row _ _ (by decide), y2_row _ _ (by decide)]
theorem RC.n0 (R : RC e u th w X) (v : Int64) : RC e u th (yuL w 1000 8 (yL w 1000 8 + v)) (xsN X 0 v) := by
  obtain ⟨⟨a1, a2, a3, a4, a5, a6, a7, a8, a9, a10, a11, a12, a13, a14, a15, a16, a17, a18, a19, a20, a21, a22, a23⟩, r2, r3, r4⟩ := R
  refine ⟨⟨a1, a2, a3, a4, a5, a6, a7, a8, a9, a10, a11, a12, a13, a14, a15, ?_, a17, a18, a19, a20, a21, a22, a23⟩, RCr_keep r2 rfl rfl rfl rfl, r3.dyn (dyn_L w _ _ _) rfl rfl, r4.L _ _ (by decide)⟩
  show yL w 1000 8 + v = xN X 0 + v
  rw [a16]
theorem RC.n1 (R : RC e u th w X) (v : Int64) : RC e u th (yuL w 1000 9 (yL w 1000 9 + v)) (xsN X 1 v) := by
  obtain ⟨⟨a1, a2, a3, a4, a5, a6, a7, a8, a9, a10, a11, a12, a13, a14, a15, a16, a17, a18, a19, a20, a21, a22, a23⟩, r2, r3, r4⟩ := R
  refine ⟨⟨a1, a2, a3, a4, a5, a6, a7, a8, a9, a10, a11, a12, a13, a14, a15, a16, ?_, a18, a19, a20, a21, a22, a23⟩, RCr_keep r2 rfl rfl rfl rfl, r3.dyn (dyn_L w _ _ _) rfl rfl, r4.L _ _ (by decide)⟩
  show yL w 1000 9 + v = xN X 1 + v
  rw [a17]
theorem RC.n2 (R : RC e u th w X) (v : Int64) : RC e u th (yuL w 1000 10 (yL w 1000 10 + v)) (xsN X 2 v) := by
  obtain ⟨⟨a1, a2, a3, a4, a5, a6, a7, a8, a9, a10, a11, a12, a13, a14, a15, a16, a17, a18, a19, a20, a21, a22, a23⟩, r2, r3, r4⟩ := R
  refine ⟨⟨a1, a2, a3, a4, a5, a6, a7, a8, a9, a10, a11, a12, a13, a14, a15, a16, a17, ?_, a19, a20, a21, a22, a23⟩, RCr_keep r2 rfl rfl rfl rfl, r3.dyn (dyn_L w _ _ _) rfl rfl, r4.L _ _ (by decide)⟩
  show yL w 1000 10 + v = xN X 2 + v
  rw [a18]
theorem RC.n3 (R : RC e u th w X) (v : Int64) : RC e u th (yuL w 1000 11 (yL w 1000 11 + v)) (xsN X 3 v) := by
  obtain ⟨⟨a1, a2, a3, a4, a5, a6, a7, a8, a9, a10, a11, a12, a13, a14, a15, a16, a17, a18, a19, a20, a21, a22, a23⟩, r2, r3, r4⟩ := R
  refine ⟨⟨a1, a2, a3, a4, a5, a6, a7, a8, a9, a10, a11, a12, a13, a14, a15, a16, a17, a18, ?_, a20, a21, a22, a23⟩, RCr_keep r2 rfl rfl rfl rfl, r3.dyn (dyn_L w _ _ _) rfl rfl, r4.L _ _ (by decide)⟩
  show yL w 1000 11 + v = xN X 3 + v
  rw [a19]
theorem RC.n4 (R : RC e u th w X) (v : Int64) : RC e u th (yuL w 1000 12 (yL w 1000 12 + v)) (xsN X 4 v) := by
  obtain ⟨⟨a1, a2, a3, a4, a5, a6, a7, a8, a9, a10, a11, a12, a13, a14, a15, a16, a17, a18, a19, a20, a21, a22, a23⟩, r2, r3, r4⟩ := R
  refine ⟨⟨a1, a2, a3, a4, a5, a6, a7, a8, a9, a10, a11, a12, a13, a14, a15, a16, a17, a18, a19, ?_, a21, a22, a23⟩, RCr_keep r2 rfl rfl rfl rfl, r3.dyn (dyn_L w _ _ _) rfl rfl, r4.L _ _ (by decide)⟩
  show yL w 1000 12 + v = xN X 4 + v
  rw [a20]
theorem RC.drop (R : RC e u th w X) : RC e u th (yuI (yuI w 1025 1 (-1)) 1025 2 (-1)) (xsR X none) := by
  obtain ⟨⟨a1, a2, a3, a4, a5, a6, a7, a8, a9, a10, a11, a12, a13, a14, a15, a16, a17, a18, a19, a20, a21, a22, a23⟩, r2, r3, r4⟩ := R
  exact ⟨⟨a1, a2, a3, a4, a5, a6, a7, a8, a9, a10, a11, a12, a13, a14, a15, a16, a17, a18, a19, a20, a21, a22, a23⟩, ⟨rfl, rfl⟩, r3.dyn ((dyn_I w 1 _ rfl (by decide)).trans (dyn_I _ 2 _ rfl (by decide))) rfl rfl, (r4.I 1 _ (by decide)).I 2 _ (by decide)⟩
end RCL
