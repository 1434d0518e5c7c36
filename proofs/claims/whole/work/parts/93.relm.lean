/-! what the model's memory holds of the state -/
theorem n_mul (a b : Nat) : Int32.ofNat a * Int32.ofNat b = Int32.ofNat (a * b) := (Int32.ofNat_mul a b).symm
theorem n_48 (t k : Nat) : Int32.ofNat t * 48 + Int32.ofNat k = Int32.ofNat (t * 48 + k) := by
  rw [n_lit 48, n_mul, n_add]
theorem n_480 (t : Nat) : Int32.ofNat t * 48 = Int32.ofNat (t * 48) := by
  rw [n_lit 48, n_mul]
theorem n_4 (t k : Nat) : Int32.ofNat t * 4 + Int32.ofNat k = Int32.ofNat (t * 4 + k) := by
  rw [n_lit 4, n_mul, n_add]
def RMa (th : Nat) (pn : Int32) (s : ms) (X : xs) : Prop := sI s 6 = Int32.ofNat (xA X).1 ∧ sI s 9 = Int32.ofNat (xA X).2.1 ∧ sI s 12 = Int32.ofNat (xA X).2.2.1 ∧ sL s 13 = (xA X).2.2.2.1 ∧ sA s 1034 = (xA X).2.2.2.2.1 ∧ sA s 1033 = (xA X).2.2.2.2.2.1 ∧ sA s 1035 = (xA X).2.2.2.2.2.2.1 ∧ sA s 1036 = (xA X).2.2.2.2.2.2.2 ∧
  xM X ≤ 200 ∧ sI s 3 = Int32.ofNat (xM X) ∧ sA s 1032 = xC X ∧ sI s 5 = xF X ∧ sI s 2 = Int32.ofNat (xSt X) ∧ sA s 1037 = xHe X ∧ sA s 1038 = xCu X ∧
  sL s 14 = xN X 0 ∧ sL s 15 = xN X 1 ∧ sL s 16 = xN X 2 ∧ sL s 17 = xN X 3 ∧ sL s 18 = xN X 4 ∧ sI s 0 = Int32.ofNat th ∧ sI s 19 = pn ∧ sI s 1 = 0
def RMr (I : Nat → Int32) (A : Nat → Nat → Int32) (sl : Nat → Option Nat) : Option rk → Prop
  | none => I 42 = -1
  | some r => r.1 < 200 ∧ I 42 = Int32.ofNat r.1 ∧ (match r.2.1 with
      | none => I 43 = -1
      | some k => k < 48 ∧ ∃ t, t < 16 ∧ sl t = some r.1 ∧ I 43 = Int32.ofNat t ∧ I 44 = Int32.ofNat k) ∧ I 45 = Int32.ofNat (pHt r.2.2) ∧ I 46 = Int32.ofNat (pLn r.2.2) ∧ (∀ i, i < pLn r.2.2 → A 1059 i = Int32.ofNat (pAd r.2.2 i) ∧ A 1060 i = pGo r.2.2 i)
def bHm (cd : Nat → Int32) (A : Nat → Nat → Int32) (b : Nat) (P : pth) : Prop := A 1053 b = Int32.ofNat (pLn P) ∧ A 1056 b = Int32.ofNat (pGs cd P) ∧ A 1057 b = Int32.ofNat (nNw (pV cd P)) ∧ A 1058 b = Int32.ofNat (nFo (pV cd P)) ∧ (∀ i, i < pLn P → A 1055 (b * 48 + i) = pGo P i)
def gbo (t : Nat) : Option Nat → Int32
  | none => -1
  | some j => Int32.ofNat (t * 4 + j)
def tHm (cd : Nat → Int32) (A : Nat → Nat → Int32) (t : Nat) (T : tr) : Prop := A 1040 t = Int32.ofNat (pLn (tP T)) ∧ A 1043 t = Int32.ofNat (pGs cd (tP T)) ∧ A 1044 t = Int32.ofNat (nNw (pV cd (tP T))) ∧ A 1045 t = Int32.ofNat (nFo (pV cd (tP T))) ∧ A 1046 t = tBg T ∧ A 1047 t = tRd T ∧ A 1048 t = Int32.ofNat (tNb T) ∧
  (∀ i, i < pLn (tP T) → A 1041 (t * 48 + i) = Int32.ofNat (pAd (tP T) i) ∧ A 1042 (t * 48 + i) = pGo (tP T) i) ∧ (∀ k, k < pGs cd (tP T) → A 1049 (t * 48 + k) = Int32.ofNat (pGa cd (tP T) k) ∧ A 1050 (t * 48 + k) = tFl T k ∧ A 1051 (t * 48 + k) = tCt T k ∧ A 1052 (t * 48 + k) = gbo t (tBr T k)) ∧
  tNb T ≤ 4 ∧ (∀ j, j < tNb T → bHm cd A (t * 4 + j) (tBp T j)) ∧ pLn (tP T) ≤ 48 ∧ pGs cd (tP T) ≤ 48 ∧ (∀ j, j < tNb T → pLn (tBp T j) ≤ 48)
def RMt (A : Nat → Nat → Int32) (X : xs) (sl : Nat → Option Nat) : Prop := (∀ t, t < 16 → A 1039 t = vov (sl t)) ∧ (∀ t t' a, t < 16 → t' < 16 → sl t = some a → sl t' = some a → t = t') ∧
  (∀ t a, t < 16 → sl t = some a → a < 200 ∧ ∃ T, xT X a = some T ∧ tHm (xC X) A t T) ∧ (∀ a T, xT X a = some T → ∃ t, t < 16 ∧ sl t = some a) ∧ cN (fun t => (sl t).isSome) 16 = xMany X
def RM (th : Nat) (pn : Int32) (s : ms) (X : xs) : Prop := ∃ sl, RMa th pn s X ∧ RMr (sI s) (sA s) sl (xR X) ∧ RMt (sA s) X sl
theorem mchM_id {s : ms} {a : am} (h1 : sI s 6 = Int32.ofNat a.1) (h2 : sI s 9 = Int32.ofNat a.2.1) (h3 : sI s 12 = Int32.ofNat a.2.2.1) (h4 : sL s 13 = a.2.2.2.1) (h5 : sA s 1034 = a.2.2.2.2.1) (h6 : sA s 1033 = a.2.2.2.2.2.1) (h7 : sA s 1035 = a.2.2.2.2.2.2.1) (h8 : sA s 1036 = a.2.2.2.2.2.2.2) : s = pmM s a := by
  unfold pmM
  rw [← h1, ← h2, ← h3, ← h4, ← h5, ← h6, ← h7, ← h8]
  show s = (y1 (y1 (y1 s.1 6 (s.1 6)) 9 (s.1 9)) 12 (s.1 12), y1 s.2.1 13 (s.2.1 13), y1 (y1 (y1 (y1 s.2.2 1034 (s.2.2 1034)) 1033 (s.2.2 1033)) 1035 (s.2.2 1035)) 1036 (s.2.2 1036))
  rw [y1_id, y1_id, y1_id, y1_id, y1_id, y1_id, y1_id, y1_id]
section RML
variable {d : Nat} {c : zm} {s : ms} {th : Nat} {pn : Int32} {X : xs} {sl : Nat → Option Nat}
theorem RMa.mid (R : RMa th pn s X) : put c s = putM c s (xA X) := by
  obtain ⟨a1, a2, a3, a4, a5, a6, a7, a8, -⟩ := R
  unfold putM
  rw [← mchM_id a1 a2 a3 a4 a5 a6 a7 a8]
/-- a state of the model, step by step -/
theorem RMa.st (R : RMa th pn s X) (v : Nat) : RMa th pn (tI s 2 (Int32.ofNat v)) (xsSt X v) := by
  obtain ⟨a1, a2, a3, a4, a5, a6, a7, a8, a9, a10, a11, a12, a13, a14, a15, a16, a17, a18, a19, a20, a21, a22⟩ := R
  exact ⟨a1, a2, a3, a4, a5, a6, a7, a8, a9, a10, a11, a12, rfl, a14, a15, a16, a17, a18, a19, a20, a21, a22⟩
theorem RMa.pnx (R : RMa th pn s X) (v : Int32) : RMa th v (tI s 19 v) X := by
  obtain ⟨a1, a2, a3, a4, a5, a6, a7, a8, a9, a10, a11, a12, a13, a14, a15, a16, a17, a18, a19, a20, a21, a22⟩ := R
  exact ⟨a1, a2, a3, a4, a5, a6, a7, a8, a9, a10, a11, a12, a13, a14, a15, a16, a17, a18, a19, a20, a21, rfl, a22.2⟩
theorem RMa.heat (R : RMa th pn s X) (i : Nat) (v : Int32) : RMa th pn (tA s 1037 (upd (sA s 1037) i v)) (xsHe X (upd (xHe X) i v)) := by
  obtain ⟨a1, a2, a3, a4, a5, a6, a7, a8, a9, a10, a11, a12, a13, a14, a15, a16, a17, a18, a19, a20, a21, a22⟩ := R
  refine ⟨a1, a2, a3, a4, a5, a6, a7, a8, a9, a10, a11, a12, a13, ?_, a15, a16, a17, a18, a19, a20, a21, a22⟩
  show upd (sA s 1037) i v = upd (xHe X) i v
  rw [a14]
theorem RMa.cuts (R : RMa th pn s X) (i : Nat) (v : Int32) : RMa th pn (tA s 1038 (upd (sA s 1038) i v)) (xsCu X (upd (xCu X) i v)) := by
  obtain ⟨a1, a2, a3, a4, a5, a6, a7, a8, a9, a10, a11, a12, a13, a14, a15, a16, a17, a18, a19, a20, a21, a22⟩ := R
  refine ⟨a1, a2, a3, a4, a5, a6, a7, a8, a9, a10, a11, a12, a13, a14, ?_, a16, a17, a18, a19, a20, a21, a22⟩
  show upd (sA s 1038) i v = upd (xCu X) i v
  rw [a15]
theorem RMa.mach (R : RMa th pn s X) (a : am) : RMa th pn (pmM s a) (xsA X a) := by
  obtain ⟨a1, a2, a3, a4, a5, a6, a7, a8, a9, a10, a11, a12, a13, a14, a15, a16, a17, a18, a19, a20, a21, a22⟩ := R
  exact ⟨rfl, rfl, rfl, rfl, rfl, rfl, rfl, rfl, a9, a10, a11, a12, a13, a14, a15, a16, a17, a18, a19, a20, a21, a22⟩
theorem RMa.n0 (R : RMa th pn s X) (v : Int64) : RMa th pn (tL s 14 (sL s 14 + v)) (xsN X 0 v) := by
  obtain ⟨a1, a2, a3, a4, a5, a6, a7, a8, a9, a10, a11, a12, a13, a14, a15, a16, a17, a18, a19, a20, a21, a22⟩ := R
  refine ⟨a1, a2, a3, a4, a5, a6, a7, a8, a9, a10, a11, a12, a13, a14, a15, ?_, a17, a18, a19, a20, a21, a22⟩
  show sL s 14 + v = xN X 0 + v
  rw [a16]
theorem RMa.n1 (R : RMa th pn s X) (v : Int64) : RMa th pn (tL s 15 (sL s 15 + v)) (xsN X 1 v) := by
  obtain ⟨a1, a2, a3, a4, a5, a6, a7, a8, a9, a10, a11, a12, a13, a14, a15, a16, a17, a18, a19, a20, a21, a22⟩ := R
  refine ⟨a1, a2, a3, a4, a5, a6, a7, a8, a9, a10, a11, a12, a13, a14, a15, a16, ?_, a18, a19, a20, a21, a22⟩
  show sL s 15 + v = xN X 1 + v
  rw [a17]
theorem RMa.n2 (R : RMa th pn s X) (v : Int64) : RMa th pn (tL s 16 (sL s 16 + v)) (xsN X 2 v) := by
  obtain ⟨a1, a2, a3, a4, a5, a6, a7, a8, a9, a10, a11, a12, a13, a14, a15, a16, a17, a18, a19, a20, a21, a22⟩ := R
  refine ⟨a1, a2, a3, a4, a5, a6, a7, a8, a9, a10, a11, a12, a13, a14, a15, a16, a17, ?_, a19, a20, a21, a22⟩
  show sL s 16 + v = xN X 2 + v
  rw [a18]
theorem RMa.n3 (R : RMa th pn s X) (v : Int64) : RMa th pn (tL s 17 (sL s 17 + v)) (xsN X 3 v) := by
  obtain ⟨a1, a2, a3, a4, a5, a6, a7, a8, a9, a10, a11, a12, a13, a14, a15, a16, a17, a18, a19, a20, a21, a22⟩ := R
  refine ⟨a1, a2, a3, a4, a5, a6, a7, a8, a9, a10, a11, a12, a13, a14, a15, a16, a17, a18, ?_, a20, a21, a22⟩
  show sL s 17 + v = xN X 3 + v
  rw [a19]
theorem RMa.n4 (R : RMa th pn s X) (v : Int64) : RMa th pn (tL s 18 (sL s 18 + v)) (xsN X 4 v) := by
  obtain ⟨a1, a2, a3, a4, a5, a6, a7, a8, a9, a10, a11, a12, a13, a14, a15, a16, a17, a18, a19, a20, a21, a22⟩ := R
  refine ⟨a1, a2, a3, a4, a5, a6, a7, a8, a9, a10, a11, a12, a13, a14, a15, a16, a17, a18, a19, ?_, a21, a22⟩
  show sL s 18 + v = xN X 4 + v
  rw [a20]
/-- other fields and rows -/
theorem RMa.I (R : RMa th pn s X) {b : Nat} (v : Int32) (h : ¬ (b = 6 ∨ b = 9 ∨ b = 12 ∨ b = 3 ∨ b = 5 ∨ b = 2 ∨ b = 0 ∨ b = 19 ∨ b = 1)) : RMa th pn (tI s b v) X := by
  obtain ⟨a1, a2, a3, a4, a5, a6, a7, a8, a9, a10, a11, a12, a13, a14, a15, a16, a17, a18, a19, a20, a21, a22⟩ := R
  exact ⟨(y1_ne _ _ (by omega)).trans a1, (y1_ne _ _ (by omega)).trans a2, (y1_ne _ _ (by omega)).trans a3, a4, a5, a6, a7, a8, a9, (y1_ne _ _ (by omega)).trans a10, a11, (y1_ne _ _ (by omega)).trans a12, (y1_ne _ _ (by omega)).trans a13, a14, a15, a16, a17, a18, a19, a20, (y1_ne _ _ (by omega)).trans a21, (y1_ne _ _ (by omega)).trans a22.1, (y1_ne _ _ (by omega)).trans a22.2⟩
theorem RMa.A (R : RMa th pn s X) {p : Nat} (f : Nat → Int32) (h : 1039 ≤ p) : RMa th pn (tA s p f) X := by
  obtain ⟨a1, a2, a3, a4, a5, a6, a7, a8, a9, a10, a11, a12, a13, a14, a15, a16, a17, a18, a19, a20, a21, a22⟩ := R
  exact ⟨a1, a2, a3, a4, (y1_ne _ _ (by omega)).trans a5, (y1_ne _ _ (by omega)).trans a6, (y1_ne _ _ (by omega)).trans a7, (y1_ne _ _ (by omega)).trans a8, a9, a10, (y1_ne _ _ (by omega)).trans a11, a12, a13, (y1_ne _ _ (by omega)).trans a14, (y1_ne _ _ (by omega)).trans a15, a16, a17, a18, a19, a20, a21, a22⟩
theorem RMa.xx (R : RMa th pn s X) {X' : xs} (hX : ∃ f g, X' = (xM X, xC X, xF X, xSt X, xA X, xHe X, xCu X, xN X, g, f)) : RMa th pn s X' := by
  obtain ⟨f', g, hf⟩ := hX
  subst hf
  exact R
theorem RMr_keep {I I' : Nat → Int32} {A A' : Nat → Nat → Int32} {r : Option rk} (R : RMr I A sl r) (h2 : I' 42 = I 42) (h3 : I' 43 = I 43) (h4 : I' 44 = I 44) (h5 : I' 45 = I 45) (h6 : I' 46 = I 46) (h7 : A' 1059 = A 1059) (h8 : A' 1060 = A 1060) : RMr I' A' sl r := by
  cases r with
  | none => exact h2.trans R
  | some r =>
    unfold RMr at *
    rw [h2, h3, h4, h5, h6, h7, h8]
    exact R
/-- no row of the traces has changed -/
def tmk (A A' : Nat → Nat → Int32) : Prop := ∀ p, 1039 ≤ p → p ≤ 1058 → A' p = A p
theorem tHm_keep {cd : Nat → Int32} {A A' : Nat → Nat → Int32} (K : tmk A A') {t : Nat} {T : tr} (h : tHm cd A t T) : tHm cd A' t T := by
  unfold tHm bHm at *
  rw [K 1040 (by decide) (by decide), K 1043 (by decide) (by decide), K 1044 (by decide) (by decide), K 1045 (by decide) (by decide), K 1046 (by decide) (by decide), K 1047 (by decide) (by decide), K 1048 (by decide) (by decide), K 1041 (by decide) (by decide), K 1042 (by decide) (by decide), K 1049 (by decide) (by decide), K 1050 (by decide) (by decide), K 1051 (by decide) (by decide), K 1052 (by decide) (by decide), K 1053 (by decide) (by decide), K 1056 (by decide) (by decide), K 1057 (by decide) (by decide), K 1058 (by decide) (by decide), K 1055 (by decide) (by decide)]
  exact h
theorem RMt.keep {A A' : Nat → Nat → Int32} {X' : xs} (R : RMt A X sl) (K : tmk A A') (hT : xT X' = xT X) (hC : xC X' = xC X) : RMt A' X' sl := by
  obtain ⟨r1, r2, r3, r4, r5⟩ := R
  refine ⟨fun t ht => by rw [K 1039 (by decide) (by decide)]; exact r1 t ht, r2, fun t a ht h => ?_, by rw [hT]; exact r4, ?_⟩
  · obtain ⟨z1, T, z2, z3⟩ := r3 t a ht h
    rw [hT, hC]
    exact ⟨z1, T, z2, tHm_keep K z3⟩
  · rw [r5]
    unfold xMany
    rw [hT]
theorem tmk.rf (A : Nat → Nat → Int32) : tmk A A := fun _ _ _ => rfl
theorem tmk_A (A : Nat → Nat → Int32) {p : Nat} (f : Nat → Int32) (h : p < 1039 ∨ 1058 < p) : tmk A (y1 A p f) := fun q h1 h2 => y1_ne _ _ (by omega)
theorem tmk.trans {A A' A'' : Nat → Nat → Int32} (h : tmk A A') (k : tmk A' A'') : tmk A A'' := fun p h1 h2 => (k p h1 h2).trans (h p h1 h2)
end RML
