/-! the whole state, pure: what a call changes -/
/-- a path: height at its beginning, length, addresses, choices -/
abbrev pth : Type := Nat × Nat × (Nat → Nat) × (Nat → Int32)
def pHt (p : pth) : Nat := p.1
def pLn (p : pth) : Nat := p.2.1
def pAd (p : pth) : Nat → Nat := p.2.2.1
def pGo (p : pth) : Nat → Int32 := p.2.2.2
/-- what is found of its values -/
def pV (cd : Nat → Int32) (p : pth) : nv := nAt cd (pAd p) (pHt p) (pLn p)
def pGs (cd : Nat → Int32) (p : pth) : Nat := nGs (pV cd p)
def pGa (cd : Nat → Int32) (p : pth) : Nat → Nat := nGa (pV cd p)
def pAdd (p : pth) (v : Int32) (q : Nat) : pth := (pHt p, pLn p + 1, nSet (pAd p) (pLn p + 1) q, nSet (pGo p) (pLn p) v)
/-- a trace: its path, begun, round, how many bridges, fails, cuts, the bridges' numbers, the bridges -/
abbrev tr : Type := pth × Int32 × Int32 × Nat × (Nat → Int32) × (Nat → Int32) × (Nat → Option Nat) × (Nat → pth)
def tP (T : tr) : pth := T.1
def tBg (T : tr) : Int32 := T.2.1
def tRd (T : tr) : Int32 := T.2.2.1
def tNb (T : tr) : Nat := T.2.2.2.1
def tFl (T : tr) : Nat → Int32 := T.2.2.2.2.1
def tCt (T : tr) : Nat → Int32 := T.2.2.2.2.2.1
def tBr (T : tr) : Nat → Option Nat := T.2.2.2.2.2.2.1
def tBp (T : tr) : Nat → pth := T.2.2.2.2.2.2.2
def tNew (p : pth) : tr := (p, 0, 0, 0, (fun _ => 0), (fun _ => 0), (fun _ => none), (fun _ => p))
def tBegun (T : tr) : tr := (tP T, tBg T + 1, tRd T, tNb T, tFl T, tCt T, tBr T, tBp T)
def tRound (T : tr) : tr := (tP T, tBg T, tRd T + 1, tNb T, tFl T, tCt T, tBr T, tBp T)
def tFail (k : Nat) (T : tr) : tr := (tP T, tBg T, tRd T, tNb T, upd (tFl T) k (tFl T k + 1), tCt T, tBr T, tBp T)
def tCut (k : Nat) (T : tr) : tr := (tP T, tBg T, tRd T, tNb T, upd (tFl T) k 0, upd (tCt T) k (tCt T k + 1), tBr T, tBp T)
def tBridge (k : Nat) (p : pth) (T : tr) : tr := (tP T, tBg T, tRd T, tNb T + 1, tFl T, tCt T, nSet (tBr T) k (some (tNb T)), nSet (tBp T) (tNb T) p)
/-- what is recorded: head, guard, path -/
abbrev rk : Type := Nat × Option Nat × pth
/-- words, code, place of the fault, state, machine, heats, cuts, counts, what is recorded, traces -/
abbrev xs : Type := Nat × (Nat → Int32) × Int32 × Nat × am × (Nat → Int32) × (Nat → Int32) × (Nat → Int64) × Option rk × (Nat → Option tr)
def xM (X : xs) : Nat := X.1
def xC (X : xs) : Nat → Int32 := X.2.1
def xF (X : xs) : Int32 := X.2.2.1
def xSt (X : xs) : Nat := X.2.2.2.1
def xA (X : xs) : am := X.2.2.2.2.1
def xHe (X : xs) : Nat → Int32 := X.2.2.2.2.2.1
def xCu (X : xs) : Nat → Int32 := X.2.2.2.2.2.2.1
def xN (X : xs) : Nat → Int64 := X.2.2.2.2.2.2.2.1
def xR (X : xs) : Option rk := X.2.2.2.2.2.2.2.2.1
def xT (X : xs) : Nat → Option tr := X.2.2.2.2.2.2.2.2.2
def xsSt (X : xs) (v : Nat) : xs := (xM X, xC X, xF X, v, xA X, xHe X, xCu X, xN X, xR X, xT X)
def xsA (X : xs) (v : am) : xs := (xM X, xC X, xF X, xSt X, v, xHe X, xCu X, xN X, xR X, xT X)
def xsHe (X : xs) (v : Nat → Int32) : xs := (xM X, xC X, xF X, xSt X, xA X, v, xCu X, xN X, xR X, xT X)
def xsCu (X : xs) (v : Nat → Int32) : xs := (xM X, xC X, xF X, xSt X, xA X, xHe X, v, xN X, xR X, xT X)
def xsN (X : xs) (i : Nat) (v : Int64) : xs := (xM X, xC X, xF X, xSt X, xA X, xHe X, xCu X, y1 (xN X) i (xN X i + v), xR X, xT X)
def xsR (X : xs) (v : Option rk) : xs := (xM X, xC X, xF X, xSt X, xA X, xHe X, xCu X, xN X, v, xT X)
def xsT (X : xs) (a : Nat) (v : Option tr) : xs := (xM X, xC X, xF X, xSt X, xA X, xHe X, xCu X, xN X, xR X, nSet (xT X) a v)
def xPc (X : xs) : Nat := (xA X).1
/-- how many below n -/
def cN (f : Nat → Bool) : Nat → Nat
  | 0 => 0
  | n + 1 => cN f n + (if f n = true then 1 else 0)
def xMany (X : xs) : Nat := cN (fun a => (xT X a).isSome) 200
def xMod (X : xs) (a : Nat) (f : tr → tr) : xs := xsT X a ((xT X a).map f)
def xCutT (X : xs) (hd : Nat) : xs := xsR (xsCu (xsHe (xsN X 4 1) (upd (xHe X) hd 0)) (upd (xCu X) hd (xCu X hd + 1))) none
def xCutB (X : xs) (hd k : Nat) : xs := xsR (xMod (xsN X 4 1) hd (tCut k)) none
def xCut (X : xs) : xs := match xR X with
  | none => X
  | some r => match r.2.1 with
    | none => xCutT X r.1
    | some k => xCutB X r.1 k
def xBegin (X : xs) (hd : Nat) (gd : Option Nat) : xs := xsR (xsN X 3 1) (some (hd, gd, ((xA X).2.1, 0, (fun _ => xPc X), (fun _ => -1))))
def xFinT (X : xs) (hd : Nat) (p : pth) : xs := xsR (xsT X hd (some (tNew p))) none
def xFinB (X : xs) (hd k : Nat) (p : pth) : xs := xsR (xMod X hd (tBridge k p)) none
def xFin (X : xs) : xs := match xR X with
  | none => X
  | some r => match r.2.1 with
    | none => xFinT X r.1 r.2.2
    | some k => xFinB X r.1 k r.2.2
def xEnd (X : xs) : xs := match xR X with
  | none => X
  | some r => if r.1 = xPc X ∧ 0 < pLn r.2.2 then xFin X else X
def xBrk (X : xs) : Bool := abrk (xC X) (xA X).1 (xA X).2.1 (xA X).2.2.2.2.1
def xCh (X : xs) : Int32 := achoice (aop (xC X) (xA X).1) (xA X).2.1 (xA X).2.2.2.2.1
def xNote (X : xs) : xs := xsR (xsA X (astep (xC X) (xA X))) ((xR X).map (fun r => (r.1, r.2.1, pAdd r.2.2 (xCh X) (astep (xC X) (xA X)).1)))
def xWants (th : Nat) (Y : xs) : Bool := !(decide (xHe Y (xPc Y) < Int32.ofNat th)) && (xR Y).isNone && (xT Y (xPc Y)).isNone && decide (xCu Y (xPc Y) < 3) && decide (xMany Y < 16)
def xHot (th : Nat) (Y : xs) : xs := if xWants th Y = true then xBegin Y (xPc Y) none else Y
def xHeat (Y : xs) : xs := xsHe Y (upd (xHe Y) (xPc Y) (xHe Y (xPc Y) + 1))
abbrev xBack (cd : Nat → Int32) (was now : Nat) : Prop := (aop cd was = 21 ∨ aop cd was = 22 ∨ aop cd was = 23) ∧ now ≤ was
def xWarm (th was : Nat) (Y : xs) : xs := if xBack (xC Y) was (xPc Y) then xHot th (xHeat Y) else Y
def xStep (th : Nat) (X : xs) : xs :=
  if xBrk X = true then xCut (xsSt X 4) else if aop (xC X) (xPc X) = 0 then xsSt (xsA X (astep (xC X) (xA X))) 3 else xWarm th (xPc X) (xNote X)
def xDue (X : xs) : xs := match xR X with
  | none => X
  | some r => if 48 ≤ pLn r.2.2 ∨ aop (xC X) (xPc X) = 0 then xCut X else X
def gIx (v : nv) (n : Nat) : Nat := (vfind (fun k => decide (nGa v k = n)) (nGs v) 0).getD 0
def xRound (X : xs) (a : Nat) : xs := xsN (xMod X a tRound) 2 1
/-- a path is followed: the counts of steps in passes -/
def xFol (X : xs) (p : pth) : xs := xsN (xsA X (afol (xC X) (pGo p) (pLn p) 0 (xA X)).2) 0 (Int32.ofNat (afol (xC X) (pGo p) (pLn p) 0 (xA X)).1).toInt64
def xHow (X : xs) (p : pth) : Nat := (afol (xC X) (pGo p) (pLn p) 0 (xA X)).1
def tWants (th k : Nat) (T : tr) : Bool := !(decide (tFl T k + 1 < Int32.ofNat th)) && decide (tCt T k < 3) && decide (tNb T < 4)
/-- the guard k of the trace at a has failed: how it goes on; how many steps more, whether it came round -/
def xFailed (th : Nat) (X : xs) (a left k : Nat) (T : tr) : xs × Nat × Bool := match tBr T k with
  | none => (if tWants th k T = true then xBegin (xMod X a (tFail k)) a (some k) else xMod X a (tFail k), 0, false)
  | some j => if pLn (tBp T j) ≤ left then
      (if xHow (xMod X a (tFail k)) (tBp T j) = pLn (tBp T j) then (xRound (xFol (xMod X a (tFail k)) (tBp T j)) a, xHow (xMod X a (tFail k)) (tBp T j), true) else (xFol (xMod X a (tFail k)) (tBp T j), xHow (xMod X a (tFail k)) (tBp T j), false))
    else (xMod X a (tFail k), 0, false)
def xPass0 (X : xs) : xs := xsN (xMod X (xPc X) tBegun) 1 1
def xPass (th left : Nat) (X : xs) (T : tr) : xs × Nat × Bool :=
  if xHow X (tP T) = pLn (tP T) then (xRound (xFol (xPass0 X) (tP T)) (xPc X), xHow X (tP T), true)
  else (fun q : xs × Nat × Bool => (q.1, xHow X (tP T) + q.2.1, q.2.2)) (xFailed th (xFol (xPass0 X) (tP T)) (xPc X) (left - xHow X (tP T)) (gIx (pV (xC X) (tP T)) (xHow X (tP T))) T)
def xAt (X : xs) : Option tr := match xR X with
  | none => xT X (xPc X)
  | some _ => none
def xPlain (th left : Nat) (X : xs) : xs × Nat := (xEnd (xStep th X), left - 1)
def xTurn0 (th left : Nat) (X : xs) : xs × Nat := match xAt X with
  | none => xPlain th left X
  | some T => if pLn (tP T) ≤ left then (if (xPass th left X T).2.2 = true then ((xPass th left X T).1, left - (xPass th left X T).2.1) else xPlain th (left - (xPass th left X T).2.1) (xPass th left X T).1) else xPlain th left X
def xTurn (th left : Nat) (X : xs) : xs × Nat := xTurn0 th left (xDue X)
def xRun (th : Nat) : Nat → Nat → xs → xs
  | 0, _, X => X
  | f + 1, left, X => if left = 0 ∨ ¬ xSt X = 2 then X else xRun th f (xTurn th left X).2 (xTurn th left X).1
/-! what is always so -/
def pOk (cd : Nat → Int32) (H : Nat → Option Nat) (p : pth) : Prop := 0 < pLn p ∧ pLn p ≤ 48 ∧ H (pAd p 0) = some (pHt p) ∧ aPath cd (pLn p) (pAd p) (pGo p) ∧ ∃ r : am, r.1 = pAd p 0 ∧ r.2.1 = pHt p ∧ ∀ j, j < pLn p → aGoes cd (pGo p) r j
def tOk (cd : Nat → Int32) (H : Nat → Option Nat) (a : Nat) (T : tr) : Prop := pOk cd H (tP T) ∧ pAd (tP T) 0 = a ∧ tNb T ≤ 4 ∧ (∀ j, j < tNb T → pOk cd H (tBp T j)) ∧ (∀ k j, k < pGs cd (tP T) → tBr T k = some j → j < tNb T ∧ pAd (tBp T j) 0 = pAd (tP T) (pGa cd (tP T) k))
def rOk (cd : Nat → Int32) (H : Nat → Option Nat) (X : xs) (r : rk) : Prop := pLn r.2.2 ≤ 48 ∧ r.1 < xM X ∧ H (pAd r.2.2 0) = some (pHt r.2.2) ∧ aPath cd (pLn r.2.2) (pAd r.2.2) (pGo r.2.2) ∧
  (∃ r0 : am, r0.1 = pAd r.2.2 0 ∧ r0.2.1 = pHt r.2.2 ∧ (∀ j, j < pLn r.2.2 → aGoes cd (pGo r.2.2) r0 j) ∧ aRun cd r0 (pLn r.2.2) = xA X) ∧
  (match r.2.1 with
    | none => xT X r.1 = none ∧ xMany X < 16 ∧ pAd r.2.2 0 = r.1
    | some k => ∃ T, xT X r.1 = some T ∧ k < pGs cd (tP T) ∧ tBr T k = none ∧ tNb T < 4 ∧ pAd r.2.2 0 = pAd (tP T) (pGa cd (tP T) k))
def xOk (N : Nat) (X : xs) : Prop := xM X ≤ 200 ∧ xSt X ≤ 4 ∧ (xA X).2.2.2.1 = Int64.ofNat N ∧ (xA X).2.2.1 ≤ N ∧ (xA X).1 < 200 ∧ (xA X).2.1 ≤ 16 ∧
  (xSt X = 0 → (∀ a, xT X a = none) ∧ xR X = none) ∧
  (¬ xSt X = 0 → ∃ H, aV (xM X) (xC X) H ∧ (∀ a T, xT X a = some T → tOk (xC X) H a T) ∧ (∀ r, xR X = some r → xSt X = 2 ∧ rOk (xC X) H X r) ∧ (xSt X = 2 → H (xA X).1 = some (xA X).2.1))
