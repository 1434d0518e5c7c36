/-! the class's traces: what lies in memory from yTop on -/
theorem y2_row {α : Type} (f : Nat → Nat → α) {p b q : Nat} (v : α) (h : q ≠ p) : y2 f p b v q = f q := by
  funext j
  exact y2_ne f v (Or.inl h)
/-- nothing has changed of the traces -/
def dyn (w w' : zm) : Prop := (∀ q, yTop ≤ q → yI w' q = yI w q) ∧ (∀ q, yTop ≤ q → yA w' q = yA w q) ∧ yI w' 1022 = yI w 1022 ∧ yQ w' = yQ w ∧ yK w' = yK w ∧ yF w' = yF w ∧ ySz w' = ySz w ∧ ySl w' = ySl w
theorem dyn.rf (w : zm) : dyn w w := ⟨fun _ _ => rfl, fun _ _ => rfl, rfl, rfl, rfl, rfl, rfl, rfl⟩
theorem dyn.trans {w w' w'' : zm} (h : dyn w w') (k : dyn w' w'') : dyn w w'' := by
  obtain ⟨h1, h2, h3, h4, h5, h6, h7, h8⟩ := h
  obtain ⟨k1, k2, k3, k4, k5, k6, k7, k8⟩ := k
  exact ⟨fun q hq => (k1 q hq).trans (h1 q hq), fun q hq => (k2 q hq).trans (h2 q hq), k3.trans h3, k4.trans h4, k5.trans h5, k6.trans h6, k7.trans h7, k8.trans h8⟩
theorem dyn_I (w : zm) {p : Nat} (b : Nat) (v : Int32) (h : Nat.blt p 1077 = true) (h2 : ¬ p = 1022) : dyn w (yuI w p b v) := by
  have h := Nat.le_of_ble_eq_true h
  refine ⟨fun q hq => y2_row _ _ (by unfold yTop at hq; omega), fun _ _ => rfl, y2_row _ _ (by omega), rfl, rfl, rfl, rfl, rfl⟩
theorem dyn_L (w : zm) (p b : Nat) (v : Int64) : dyn w (yuL w p b v) := ⟨fun _ _ => rfl, fun _ _ => rfl, rfl, rfl, rfl, rfl, rfl, rfl⟩
theorem dyn_B (w : zm) (p b : Nat) (v : Int64) : dyn w (yuB w p b v) := ⟨fun _ _ => rfl, fun _ _ => rfl, rfl, rfl, rfl, rfl, rfl, rfl⟩
theorem dyn_R (w : zm) {p : Nat} (f : Nat → Int32) (h : Nat.blt p 1077 = true) : dyn w (yuR w p f) := by
  have h := Nat.le_of_ble_eq_true h
  exact ⟨fun _ _ => rfl, fun q hq => y1_ne _ _ (by unfold yTop at hq; omega), rfl, rfl, rfl, rfl, rfl, rfl⟩
theorem dyn_A (w : zm) {p : Nat} (i : Nat) (v : Int32) (h : Nat.blt p 1077 = true) : dyn w (yuA w p i v) := dyn_R w _ h
theorem dyn_putm (w : zm) (a : am) : dyn w (putm w a) := by
  refine ⟨fun q hq => ?_, fun q hq => ?_, ?_, rfl, rfl, rfl, rfl, rfl⟩
  · unfold yTop at hq
    show y2 (y2 (y2 (yI w) 1007 6 _) 1007 7 _) 1009 1 _ q = yI w q
    rw [y2_row _ _ (by omega), y2_row _ _ (by omega), y2_row _ _ (by omega)]
  · unfold yTop at hq
    show y1 (y1 (y1 (y1 (yA w) 1010 _) 1008 _) 1011 _) 1012 _ q = yA w q
    rw [y1_ne _ _ (by omega), y1_ne _ _ (by omega), y1_ne _ _ (by omega), y1_ne _ _ (by omega)]
  · show y2 (y2 (y2 (yI w) 1007 6 _) 1007 7 _) 1009 1 _ 1022 = yI w 1022
    rw [y2_row _ _ (by decide), y2_row _ _ (by decide), y2_row _ _ (by decide)]
theorem dyn_put (w : zm) (s : ms) : dyn w (put w s) := by
  refine ⟨fun q hq => ?_, fun q hq => ?_, rfl, rfl, rfl, rfl, rfl, rfl⟩
  · unfold yTop at hq
    funext j
    show (bif Nat.beq q 1031 then sI s j else yI w q j) = yI w q j
    rw [ybeq (by omega)]
    rfl
  · unfold yTop at hq
    show (bif yrM q then sA s q else yA w q) = yA w q
    have : yrM q = false := by
      unfold yrM
      have : Nat.blt q 1076 = false := by
        cases e : Nat.blt q 1076 with
        | false => rfl
        | true => have := Nat.le_of_ble_eq_true e; omega
      rw [this, Bool.and_false]
    rw [this]
    rfl
theorem dyn_yV (w : zm) (I A : Nat → Nat → Int32) : dyn w (yV w I A) := by
  refine ⟨fun q hq => ?_, fun q hq => ?_, rfl, rfl, rfl, rfl, rfl, rfl⟩
  · unfold yTop at hq
    funext j
    show (bif mVI q j then I q j else yI w q j) = yI w q j
    have : mVI q j = false := by
      unfold mVI
      rw [ybeq (q := q) (p := 1013) (by omega), ybeq (q := q) (p := 1015) (by omega), ybeq (q := q) (p := 1026) (by omega)]
      rfl
    rw [this]
    rfl
  · unfold yTop at hq
    show (bif mVA q then A q else yA w q) = yA w q
    have : mVA q = false := by
      unfold mVA
      have : Nat.ble q 1021 = false := by
        cases e : Nat.ble q 1021 with
        | false => rfl
        | true => have := Nat.le_of_ble_eq_true e; omega
      rw [ybeq (q := q) (p := 1014) (by omega), ybeq (q := q) (p := 1029) (by omega), ybeq (q := q) (p := 1030) (by omega), this, Bool.and_false]
      rfl
    rw [this]
    rfl
/-! kinds keep traces and paths apart -/
theorem yT_of {w w' : zm} (hK : yK w' = yK w) (hF : yF w' = yF w) {p : Nat} (h : yT w p) : yT w' p := by
  unfold yT yP yk yR at *
  rw [hK, hF]
  exact h
theorem yP_of {w w' : zm} (hK : yK w' = yK w) (hF : yF w' = yF w) {p : Nat} (h : yP w p) : yP w' p := by
  unfold yP yk yR at *
  rw [hK, hF]
  exact h
theorem yP_row {w : zm} {p : Nat} (h : yP w p) {d : Nat} (h1 : 1 ≤ d) (h4 : d ≤ 4) : yk w (p + d) = some (.inr (0, 48)) := by
  have := (h.2.2 (d - 1) (by omega)).2
  rw [show d - 1 + 1 = d from by omega] at this
  exact this
theorem yT_row {w : zm} {p : Nat} (h : yT w p) {d : Nat} (h1 : 1 ≤ d) (h4 : d ≤ 9) : ¬ yk w (p + d) = some (.inl 5) ∧ (d ≠ 1 → ¬ yk w (p + d) = some (.inl 2)) := by
  by_cases e1 : d = 1
  · subst e1
    rw [yP_k (yT_P h)]
    exact ⟨fun z => (by cases z), fun z => absurd rfl z⟩
  · by_cases e5 : d ≤ 5
    · have := yP_row (yT_P h) (d := d - 1) (by omega) (by omega)
      rw [show p + 1 + (d - 1) = p + d from by omega] at this
      rw [this]
      exact ⟨fun z => (by cases z), fun _ z => (by cases z)⟩
    · have := (h.2.2.2.2 (d - 6) (by omega)).2
      rw [show d - 6 + 6 = d from by omega] at this
      rw [this]
      exact ⟨fun z => (by cases z), fun _ z => (by cases z)⟩
theorem sTT {w : zm} {p p' : Nat} (h : yT w p) (h' : yT w p') (hn : p ≠ p') : p + 10 ≤ p' ∨ p' + 10 ≤ p := by
  by_cases c1 : p + 10 ≤ p'
  · exact Or.inl c1
  · by_cases c2 : p' + 10 ≤ p
    · exact Or.inr c2
    · exfalso
      by_cases c3 : p < p'
      · have := (yT_row h (d := p' - p) (by omega) (by omega)).1
        rw [show p + (p' - p) = p' from by omega] at this
        exact this (yT_k h')
      · have := (yT_row h' (d := p - p') (by omega) (by omega)).1
        rw [show p' + (p - p') = p from by omega] at this
        exact this (yT_k h)
theorem sTP {w : zm} {p q : Nat} (h : yT w p) (h' : yP w q) (hn : q ≠ p + 1) : q + 5 ≤ p ∨ p + 10 ≤ q := by
  by_cases c1 : q + 5 ≤ p
  · exact Or.inl c1
  · by_cases c2 : p + 10 ≤ q
    · exact Or.inr c2
    · exfalso
      by_cases c3 : p < q
      · by_cases c4 : q = p + 1
        · exact hn c4
        · have := (yT_row h (d := q - p) (by omega) (by omega)).2 (by omega)
          rw [show p + (q - p) = q from by omega] at this
          exact this (yP_k h')
      · by_cases c4 : p = q
        · have := yT_k h
          rw [c4, yP_k h'] at this
          cases this
        · have := yP_row h' (d := p - q) (by omega) (by omega)
          rw [show q + (p - q) = p from by omega, yT_k h] at this
          cases this
theorem sPP {w : zm} {p q : Nat} (h : yP w p) (h' : yP w q) (hn : p ≠ q) : q + 5 ≤ p ∨ p + 5 ≤ q := by
  by_cases c1 : q + 5 ≤ p
  · exact Or.inl c1
  · by_cases c2 : p + 5 ≤ q
    · exact Or.inr c2
    · exfalso
      by_cases c3 : p < q
      · have := yP_row h (d := q - p) (by omega) (by omega)
        rw [show p + (q - p) = q from by omega, yP_k h'] at this
        cases this
      · have := yP_row h' (d := p - q) (by omega) (by omega)
        rw [show q + (p - q) = p from by omega, yP_k h] at this
        cases this
/-! what a path and a trace hold -/
def pHc (cd : Nat → Int32) (I A : Nat → Nat → Int32) (q : Nat) (P : pth) : Prop := I q 4 = Int32.ofNat (pLn P) ∧ I q 6 = Int32.ofNat (pGs cd P) ∧ I q 7 = Int32.ofNat (nNw (pV cd P)) ∧ I q 8 = Int32.ofNat (nFo (pV cd P)) ∧
  (∀ i, i < pLn P → (aop cd (pAd P i) = 22 ∨ aop cd (pAd P i) = 23) → (A (q + 2) i = 1 ↔ pGo P i = 0)) ∧ (∀ k, k < pGs cd P → A (q + 3) (pGa cd P k) = Int32.ofNat k ∧ A (q + 4) k = Int32.ofNat (pAd P (pGa cd P k)))
def tHc (cd : Nat → Int32) (I A : Nat → Nat → Int32) (Q : Nat → Nat → Option Nat) (p a : Nat) (T : tr) : Prop := I p 5 = Int32.ofNat a ∧ I p 6 = Int32.ofNat (tNb T) ∧ I p 7 = tBg T ∧ I p 8 = tRd T ∧ pHc cd I A (p + 1) (tP T) ∧
  (∀ k, k < pGs cd (tP T) → A (p + 6) k = tFl T k ∧ A (p + 7) k = tCt T k ∧ A (p + 8) k = vov (tBr T k)) ∧ tNb T ≤ 4 ∧ (∀ j, j < tNb T → ∃ q, Q (p + 9) j = some q ∧ pHc cd I A q (tBp T j))
theorem pHc_fr {cd : Nat → Int32} {I A I' A' : Nat → Nat → Int32} {q : Nat} {P : pth} (h : pHc cd I A q P) (hI : I' q = I q) (h2 : A' (q + 2) = A (q + 2)) (h3 : A' (q + 3) = A (q + 3)) (h4 : A' (q + 4) = A (q + 4)) : pHc cd I' A' q P := by
  unfold pHc at *
  rw [hI, h2, h3, h4]
  exact h
/-- where all lies; u: the room taken by the rest -/
def own (w : zm) (nT : Nat) (tp loc : Nat → Nat) (sc : Nat) : Prop :=
  nT ≤ 16 ∧ yTop ≤ ySz w ∧ (∀ i, i < nT → yT w (tp i) ∧ tp i + 9 < ySz w) ∧ (∀ i j, i < nT → j < nT → tp i = tp j → i = j) ∧
  (∀ i j q, i < nT → j < 4 → yQ w (tp i + 9) j = some q → yP w q ∧ q + 4 < ySz w ∧ ∀ i', i' < nT → q ≠ tp i' + 1) ∧
  (∀ i i' j j' q, i < nT → i' < nT → j < 4 → j' < 4 → yQ w (tp i + 9) j = some q → yQ w (tp i' + 9) j' = some q → i = i' ∧ j = j') ∧
  (∀ a p, a < 200 → yQ w 1023 a = some p → ∃ i, i < nT ∧ tp i = p ∧ loc i = a) ∧
  yI w 1022 2 = Int32.ofNat sc ∧ (∀ j, j < sc → ∃ i, i < nT ∧ yQ w 1024 j = some (tp i) ∧ loc i = 200 + j)
def bN (w : zm) (nT : Nat) (tp : Nat → Nat) : Nat := cN (fun x => Nat.blt (x / 4) nT && (yQ w (tp (x / 4) + 9) (x % 4)).isSome) 64
def RCt (u : Nat × Nat) (w : zm) (X : xs) : Prop := ∃ nT tp loc sc, own w nT tp loc sc ∧ yI w 1022 3 = Int32.ofNat (xMany X) ∧ sc + xMany X = nT ∧
  (∀ a, a < 200 → xT X a = none → yQ w 1023 a = none) ∧ (∀ a T, a < 200 → xT X a = some T → ∃ p, yQ w 1023 a = some p ∧ tHc (xC X) (yI w) (yA w) (yQ w) p a T) ∧
  ySz w ≤ u.1 + 10 * nT + 5 * bN w nT tp ∧ ySl w ≤ u.2 + 358 * nT + 201 * bN w nT tp
theorem own.T {w : zm} {nT : Nat} {tp loc : Nat → Nat} {sc : Nat} (O : own w nT tp loc sc) {a p : Nat} (ha : a < 200) (h : yQ w 1023 a = some p) : yT w p ∧ p + 9 < ySz w ∧ ∃ i, i < nT ∧ tp i = p ∧ loc i = a := by
  obtain ⟨i, i1, i2, i3⟩ := O.2.2.2.2.2.2.1 a p ha h
  obtain ⟨t1, t2⟩ := O.2.2.1 i i1
  rw [i2] at t1 t2
  exact ⟨t1, t2, i, i1, i2, i3⟩
/-- only what lies at p .. p + 9 has changed, and its refs have not -/
def frm (w w' : zm) (p : Nat) : Prop := (∀ q, yTop ≤ q → (q < p ∨ p + 10 ≤ q) → yI w' q = yI w q ∧ yA w' q = yA w q) ∧ yI w' 1022 = yI w 1022 ∧ yQ w' = yQ w ∧ yK w' = yK w ∧ yF w' = yF w ∧ ySz w' = ySz w ∧ ySl w' = ySl w
theorem own.keep {w w' : zm} {nT : Nat} {tp loc : Nat → Nat} {sc : Nat} (O : own w nT tp loc sc) (h1 : yI w' 1022 = yI w 1022) (h2 : yQ w' = yQ w) (h3 : yK w' = yK w) (h4 : yF w' = yF w) (h5 : ySz w' = ySz w) : own w' nT tp loc sc := by
  unfold own yT yP yk yR at *
  rw [h1, h2, h3, h4, h5]
  exact O
theorem bN_keep {w w' : zm} (nT : Nat) (tp : Nat → Nat) (h2 : yQ w' = yQ w) : bN w' nT tp = bN w nT tp := by
  unfold bN
  rw [h2]
theorem RCt.dyn {u : Nat × Nat} {w w' : zm} {X X' : xs} (R : RCt u w X) (D : dyn w w') (hT : xT X' = xT X) (hC : xC X' = xC X) : RCt u w' X' := by
  obtain ⟨d1, d2, d3, d4, d5, d6, d7, d8⟩ := D
  obtain ⟨nT, tp, loc, sc, O, r2, r3, r4, r5, r6, r7⟩ := R
  have hm : xMany X' = xMany X := by unfold xMany; rw [hT]
  refine ⟨nT, tp, loc, sc, O.keep d3 d4 d5 d6 d7, by rw [d3, hm]; exact r2, by rw [hm]; exact r3, by rw [hT, d4]; exact r4, fun a T ha h => ?_, by rw [d7, bN_keep nT tp d4]; exact r6, by rw [d8, bN_keep nT tp d4]; exact r7⟩
  rw [hT] at h
  obtain ⟨p, p1, p2⟩ := r5 a T ha h
  obtain ⟨t1, t2, i, i1, i2, i3⟩ := O.T ha p1
  have hp := t1.1
  refine ⟨p, by rw [d4]; exact p1, ?_⟩
  obtain ⟨e1, e2, e3, e4, e5, e6, e7, e8⟩ := p2
  rw [hC, d4]
  unfold tHc
  rw [d1 p hp, d2 (p + 6) (by omega), d2 (p + 7) (by omega), d2 (p + 8) (by omega)]
  refine ⟨e1, e2, e3, e4, pHc_fr e5 (d1 _ (by omega)) (d2 _ (by omega)) (d2 _ (by omega)) (d2 _ (by omega)), e6, e7, fun j hj => ?_⟩
  obtain ⟨q, q1, q2⟩ := e8 j hj
  have hq := (O.2.2.2.2.1 i j q i1 (by omega) (by rw [i2]; exact q1)).1.1
  exact ⟨q, q1, pHc_fr q2 (d1 _ hq) (d2 _ (by omega)) (d2 _ (by omega)) (d2 _ (by omega))⟩
/-- one trace has changed -/
theorem RCt.set {u : Nat × Nat} {w w' : zm} {X X' : xs} (R : RCt u w X) {a p : Nat} {T T' : tr} (ha : a < 200) (hT : xT X a = some T) (hp : yQ w 1023 a = some p) (D : frm w w' p) (hX : xT X' = nSet (xT X) a (some T')) (hC : xC X' = xC X)
    (h5 : yI w' p 5 = yI w p 5) (h6 : yI w' p 6 = yI w p 6) (h1 : yI w' (p + 1) = yI w (p + 1)) (h7 : yI w p 7 = tBg T → yI w' p 7 = tBg T') (h8 : yI w p 8 = tRd T → yI w' p 8 = tRd T') (hA : ∀ i, i < 10 → i ≠ 6 → i ≠ 7 → yA w' (p + i) = yA w (p + i))
    (hk : ∀ k, k < pGs (xC X) (tP T) → (yA w (p + 6) k = tFl T k ∧ yA w (p + 7) k = tCt T k) → (yA w' (p + 6) k = tFl T' k ∧ yA w' (p + 7) k = tCt T' k)) (s1 : tP T' = tP T) (s2 : tNb T' = tNb T) (s3 : tBr T' = tBr T) (s4 : tBp T' = tBp T) : RCt u w' X' := by
  obtain ⟨d1, d3, d4, d5, d6, d7, d8⟩ := D
  obtain ⟨nT, tp, loc, sc, O, r2, r3, r4, r5, r6, r7⟩ := R
  have hm : xMany X' = xMany X := by
    refine cN_eq 200 (fun i _ => ?_)
    show (xT X' i).isSome = (xT X i).isSome
    rw [hX]
    by_cases e : i = a
    · rw [e, nSet_same, hT]
      rfl
    · rw [nSet_ne _ _ e]
  obtain ⟨t1, t2, i, i1, i2, i3⟩ := O.T ha hp
  refine ⟨nT, tp, loc, sc, O.keep d3 d4 d5 d6 d7, by rw [d3, hm]; exact r2, by rw [hm]; exact r3, fun b hb h => ?_, fun b Tb hb h => ?_, by rw [d7, bN_keep nT tp d4]; exact r6, by rw [d8, bN_keep nT tp d4]; exact r7⟩
  · rw [hX] at h
    by_cases e : b = a
    · rw [e, nSet_same] at h; cases h
    · rw [nSet_ne _ _ e] at h
      rw [d4]
      exact r4 b hb h
  · rw [hX] at h
    by_cases e : b = a
    · rw [e, nSet_same] at h
      cases h
      obtain ⟨p', q1, e1, e2, e3, e4, e5, e6, e7, e8⟩ := r5 a T ha hT
      rw [hp] at q1
      cases q1
      refine ⟨p, by rw [d4, e]; exact hp, ?_⟩
      rw [hC, d4, e]
      refine ⟨by rw [h5]; exact e1, by rw [h6, s2]; exact e2, h7 e3, h8 e4, ?_, ?_, by rw [s2]; exact e7, ?_⟩
      · rw [s1]
        exact pHc_fr e5 h1 (hA 3 (by decide) (by decide) (by decide)) (hA 4 (by decide) (by decide) (by decide)) (hA 5 (by decide) (by decide) (by decide))
      · intro k hk'
        rw [s1] at hk'
        obtain ⟨z1, z2, z3⟩ := e6 k hk'
        obtain ⟨y1, y2⟩ := hk k hk' ⟨z1, z2⟩
        refine ⟨y1, y2, ?_⟩
        rw [hA 8 (by decide) (by decide) (by decide), s3]
        exact z3
      · intro j hj
        rw [s2] at hj
        obtain ⟨q, q1, q2⟩ := e8 j hj
        obtain ⟨o1, o2, o3⟩ := O.2.2.2.2.1 i j q i1 (by omega) (by rw [i2]; exact q1)
        have hs := sTP t1 o1 (by rw [← i2]; exact o3 i i1)
        have ho := o1.1
        rw [s4]
        exact ⟨q, q1, pHc_fr q2 (d1 _ ho (by omega)).1 (d1 _ (by omega) (by omega)).2 (d1 _ (by omega) (by omega)).2 (d1 _ (by omega) (by omega)).2⟩
    · rw [nSet_ne _ _ e] at h
      obtain ⟨p', q1, e1, e2, e3, e4, e5, e6, e7, e8⟩ := r5 b Tb hb h
      obtain ⟨u1, u2, i', j1, j2, j3⟩ := O.T hb q1
      have hne : p ≠ p' := by
        intro z
        rw [z, ← j2] at i2
        have := O.2.2.2.1 i i' i1 j1 i2
        rw [this, j3] at i3
        exact e i3
      have hs := sTT t1 u1 hne
      have ho := u1.1
      refine ⟨p', by rw [d4]; exact q1, ?_⟩
      rw [hC, d4]
      unfold tHc
      rw [(d1 p' ho (by omega)).1, (d1 (p' + 6) (by omega) (by omega)).2, (d1 (p' + 7) (by omega) (by omega)).2, (d1 (p' + 8) (by omega) (by omega)).2]
      refine ⟨e1, e2, e3, e4, pHc_fr e5 (d1 _ (by omega) (by omega)).1 (d1 _ (by omega) (by omega)).2 (d1 _ (by omega) (by omega)).2 (d1 _ (by omega) (by omega)).2, e6, e7, fun j hj => ?_⟩
      obtain ⟨q, q1, q2⟩ := e8 j hj
      obtain ⟨o1, o2, o3⟩ := O.2.2.2.2.1 i' j q j1 (by omega) (by rw [j2]; exact q1)
      have hs' := sTP t1 o1 (by rw [← i2]; exact o3 i i1)
      have ho' := o1.1
      exact ⟨q, q1, pHc_fr q2 (d1 _ ho' (by omega)).1 (d1 _ (by omega) (by omega)).2 (d1 _ (by omega) (by omega)).2 (d1 _ (by omega) (by omega)).2⟩
