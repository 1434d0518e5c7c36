/-! a pass can only be left at a step that has a guard of its own -/
def nGrd (v : nv) : Nat × (Nat → Nat) × (Nat → Bool) := (nGs v, nGa v, nGd v)
theorem nGrd_const (c : Int32) (u : nv) : nGrd (nPut (nConst c u)) = nGrd u := by
  unfold nPut nConst
  split <;> rfl
theorem nGrd_op (o : Nat) (l r : Int32) (fr : Nat) (u : nv) : nGrd (nPut (nOp o l r fr u)) = nGrd u := by
  unfold nPut nOp
  split <;> rfl
theorem nGrd_guard (x k : Nat) {u v : nv} (h1 : nGrd u = nGrd v) (h2 : nDf u = nDf v) : nGrd (nGuard x k u) = nGrd (nGuard x k v) := by
  have e1 : nGs u = nGs v := congrArg (fun z => z.1) h1
  have e2 : nGa u = nGa v := congrArg (fun z => z.2.1) h1
  have e3 : nGd u = nGd v := congrArg (fun z => z.2.2) h1
  have ec : nCon u x = nCon v x := by unfold nCon; rw [h2]
  unfold nGuard
  rw [ec, e3]
  split
  · exact h1
  · show (nGs u + 1, nSet (nGa u) (nGs u) k, nSet (nGd u) x true) = (nGs v + 1, nSet (nGa v) (nGs v) k, nSet (nGd v) x true)
    rw [e1, e2, e3]
theorem nStep_guards {cd : Nat → Int32} {k p : Nat} {v : nv} (ho : aop cd p ≤ 26) : nGrd (nStep cd k p v) = if aop cd p = 7 ∨ aop cd p = 8 ∨ aop cd p = 22 ∨ aop cd p = 23 then nGrd (nGuard (nStk v (nHi v - 1)) k v) else nGrd v := by
  unfold nStep
  generalize aop cd p = o at *
  generalize aarg cd p = x at *
  by_cases ha : 4 ≤ o ∧ o ≤ 15
  · rw [if_pos ha]
    unfold nWork2
    dsimp only
    by_cases h7 : o = 7 ∨ o = 8
    · rw [if_pos h7, if_pos (show o = 7 ∨ o = 8 ∨ o = 22 ∨ o = 23 by omega)]
      rw [← nGrd_guard (nStk v (nHi v - 1)) k (u := nPop 2 v) (v := v) rfl rfl]
      split
      · rw [nGrd_const]
        rfl
      · rw [nGrd_op]
    · rw [if_neg h7, if_neg (show ¬ (o = 7 ∨ o = 8 ∨ o = 22 ∨ o = 23) by omega)]
      split
      · rw [nGrd_const]
        rfl
      · rw [nGrd_op]
        rfl
  · rw [if_neg ha]
    have w1 : ∀ o, nGrd (nWork1 o v) = nGrd v := by
      intro o
      unfold nWork1
      dsimp only
      split
      · rw [nGrd_const]
        rfl
      · rw [nGrd_op]
        rfl
    obtain e | e | e | e | e | e | e | e | e | e | e | e | e | e | e : o = 0 ∨ o = 1 ∨ o = 2 ∨ o = 3 ∨ o = 16 ∨ o = 17 ∨ o = 18 ∨ o = 19 ∨ o = 20 ∨ o = 21 ∨ o = 22 ∨ o = 23 ∨ o = 24 ∨ o = 25 ∨ o = 26 := by omega
    all_goals
      subst e
    · rw [if_neg (by decide)]
      rfl
    · rw [if_neg (by decide)]
      exact nGrd_const _ _
    · rw [if_neg (by decide)]
      rfl
    · rw [if_neg (by decide)]
      rfl
    · rw [if_neg (by decide)]
      exact w1 16
    · rw [if_neg (by decide)]
      exact w1 17
    · rw [if_neg (by decide)]
      rfl
    · rw [if_neg (by decide)]
      rfl
    · rw [if_neg (by decide)]
      rfl
    · rw [if_neg (by decide)]
      rfl
    · rw [if_pos (by decide)]
      exact nGrd_guard _ k rfl rfl
    · rw [if_pos (by decide)]
      exact nGrd_guard _ k rfl rfl
    · rw [if_neg (by decide)]
      rfl
    · rw [if_neg (by decide)]
      show nGrd (nPeek v) = nGrd v
      unfold nPeek
      dsimp only
      split
      · split <;> rfl
      · rw [nGrd_op]
        rfl
    · rw [if_neg (by decide)]
      show nGrd (nPoke v) = nGrd v
      unfold nPoke
      dsimp only
      split <;> rfl
/-! runs along a path -/
def aRun (cd : Nat → Int32) (a : am) : Nat → am
  | 0 => a
  | i + 1 => astep cd (aRun cd a i)
/-- step i of a run goes as the path says -/
def aGoes (cd g : Nat → Int32) (a : am) (i : Nat) : Prop := abrk cd (aRun cd a i).1 (aRun cd a i).2.1 (aRun cd a i).2.2.2.2.1 = false ∧ achoice (aop cd (aRun cd a i).1) (aRun cd a i).2.1 (aRun cd a i).2.2.2.2.1 = g i
section TWO
variable {m : Nat} {cd : Nat → Int32} {H : Nat → Option Nat} {len : Nat} {ad : Nat → Nat} {g : Nat → Int32} {h : Nat}
theorem aRun_at (V : aV m cd H) (P : aPath cd len ad g) (hh : H (ad 0) = some h) {a : am} (ha : a.1 = ad 0) (hah : a.2.1 = h) : ∀ i, i ≤ len → (∀ j, j < i → aGoes cd g a j) → (aRun cd a i).1 = ad i ∧ H (ad i) = some (aRun cd a i).2.1 := by
  intro i
  induction i with
  | zero =>
    intro _ _
    exact ⟨ha, by rw [hh]; exact congrArg some hah.symm⟩
  | succ i ih =>
    intro hi hg
    obtain ⟨e1, e2⟩ := ih (by omega) (fun j hj => hg j (by omega))
    obtain ⟨g1, g2⟩ := hg i (by omega)
    obtain ⟨p1, p2, p3, p4⟩ := P i (by omega)
    show (astep cd (aRun cd a i)).1 = ad (i + 1) ∧ H (ad (i + 1)) = some (astep cd (aRun cd a i)).2.1
    generalize aRun cd a i = b at *
    obtain ⟨pc, hb, em, n, stk, loc, mem, out⟩ := b
    dsimp only at e1 e2 g1 g2
    subst e1
    have e3 : (astep cd (ad i, hb, em, n, stk, loc, mem, out)).1 = ad (i + 1) := by
      rw [p2]
      exact anx_of g2
    refine ⟨e3, ?_⟩
    have := V.ht e2 p1 em n stk loc mem out
    rw [e3] at this
    exact this
def nSa (v : nv) (a : am) (val : Nat → Int32) : Prop := nS v a.2.1 a.2.2.2.2.1 a.2.2.2.2.2.1 a.2.2.2.2.2.2.1 val
theorem nInit_S {a : am} (hah : a.2.1 = h) (h16 : h ≤ 16) : nSa (nInit h) a (fun x => if x < 16 then a.2.2.2.2.2.1 x else a.2.2.2.2.1 (x - 16)) := by
  refine ⟨hah, fun i hi => ?_, fun i hi => ?_, fun i x _ (hx : (none : Option Nat) = some x) => (by cases hx), fun x h1 h2 => absurd h2 (by show ¬ x < 32; omega)⟩
  · show a.2.2.2.2.2.1 i = (if i < 16 then a.2.2.2.2.2.1 i else a.2.2.2.2.1 (i - 16))
    rw [if_pos hi]
  · show a.2.2.2.2.1 i = (if 16 + i < 16 then a.2.2.2.2.2.1 (16 + i) else a.2.2.2.2.1 (16 + i - 16))
    rw [if_neg (by omega), show 16 + i - 16 = i from by omega]
theorem nSa_step (V : aV m cd H) (P : aPath cd len ad g) (hh : H (ad 0) = some h) (hlen : len ≤ 48) {a : am} {i : Nat} (hi : i < len) (hpc : (aRun cd a i).1 = ad i) {val : Nat → Int32} (S : nSa (nAt cd ad h i) (aRun cd a i) val) : ∃ val', nSa (nAt cd ad h (i + 1)) (aRun cd a (i + 1)) val' ∧ ∀ y, y < nN (nAt cd ad h i) → val' y = val y := by
  obtain ⟨a1, a2, a3, a4, a5⟩ := nAt_ok V P hh i (by omega)
  obtain ⟨b1, b2⟩ := nAt_go V P hh (i := i) (by omega)
  rw [nAt_succ]
  show ∃ val', nSa (nStep cd i (ad i) (nAt cd ad h i)) (astep cd (aRun cd a i)) val' ∧ _
  generalize aRun cd a i = b at *
  obtain ⟨pc, hb, em, n, stk, loc, mem, out⟩ := b
  dsimp only at hpc
  subst hpc
  exact nStep_sound (em := em) (out := out) S a1 (by omega) b1
theorem two_runs (V : aV m cd H) (P : aPath cd len ad g) (hh : H (ad 0) = some h) (hlen : len ≤ 48) {r a : am} (hr1 : r.1 = ad 0) (hr2 : r.2.1 = h) (ha1 : a.1 = ad 0) (ha2 : a.2.1 = h) (hrec : ∀ j, j < len → aGoes cd g r j) :
    ∀ i, i ≤ len → (∀ j, j < i → aGoes cd g a j) → ∃ vr va, nSa (nAt cd ad h i) (aRun cd r i) vr ∧ nSa (nAt cd ad h i) (aRun cd a i) va ∧ ∀ x, nGd (nAt cd ad h i) x = true → x < nN (nAt cd ad h i) ∧ (va x = 0 ↔ vr x = 0) := by
  have h16 := (V.2.2.2 _ _ hh).2.2.1
  intro i
  induction i with
  | zero =>
    intro _ _
    exact ⟨_, _, nInit_S hr2 h16, nInit_S ha2 h16, fun x hx => by cases hx⟩
  | succ i ih =>
    intro hi hg
    obtain ⟨vr, va, s1, s2, s3⟩ := ih (by omega) (fun j hj => hg j (by omega))
    obtain ⟨r1, r2⟩ := aRun_at V P hh hr1 hr2 i (by omega) (fun j hj => hrec j (by omega))
    obtain ⟨a1, a2⟩ := aRun_at V P hh ha1 ha2 i (by omega) (fun j hj => hg j (by omega))
    obtain ⟨vr', t1, t2⟩ := nSa_step V P hh hlen (by omega) r1 s1
    obtain ⟨va', u1, u2⟩ := nSa_step V P hh hlen (by omega) a1 s2
    obtain ⟨k1, k2, k3, k4, k5⟩ := nAt_ok V P hh i (by omega)
    obtain ⟨b1, b2⟩ := nAt_go V P hh (i := i) (by omega)
    obtain ⟨c1, c2, c3, c4, c5⟩ := nStep_ok (k := i) k1 b1
    refine ⟨vr', va', t1, u1, fun x hx => ?_⟩
    rw [nAt_succ] at hx ⊢
    have hgr := nStep_guards (cd := cd) (k := i) (p := ad i) (v := nAt cd ad h i) b1.1
    have old : nGd (nAt cd ad h i) x = true → x < nN (nStep cd i (ad i) (nAt cd ad h i)) ∧ (va' x = 0 ↔ vr' x = 0) := by
      intro q
      obtain ⟨q1, q2⟩ := s3 x q
      rw [t2 x q1, u2 x q1]
      exact ⟨by omega, q2⟩
    by_cases ho : aop cd (ad i) = 7 ∨ aop cd (ad i) = 8 ∨ aop cd (ad i) = 22 ∨ aop cd (ad i) = 23
    · rw [if_pos ho] at hgr
      have e3 : nGd (nStep cd i (ad i) (nAt cd ad h i)) = nGd (nGuard (nStk (nAt cd ad h i) (nHi (nAt cd ad h i) - 1)) i (nAt cd ad h i)) := congrArg (fun z => z.2.2) hgr
      rw [e3] at hx
      unfold nGuard at hx
      by_cases hc : nCon (nAt cd ad h i) (nStk (nAt cd ad h i) (nHi (nAt cd ad h i) - 1)) = true ∨ nGd (nAt cd ad h i) (nStk (nAt cd ad h i) (nHi (nAt cd ad h i) - 1)) = true
      · rw [if_pos hc] at hx
        exact old hx
      · rw [if_neg hc] at hx
        have hx : nSet (nGd (nAt cd ad h i)) (nStk (nAt cd ad h i) (nHi (nAt cd ad h i) - 1)) true x = true := hx
        by_cases e : x = nStk (nAt cd ad h i) (nHi (nAt cd ad h i) - 1)
        · have ht : 1 ≤ nHi (nAt cd ad h i) := by
            have := b1.2.1
            rcases ho with q | q | q | q <;> (rw [q] at this; simp [tk] at this; omega)
          have hlt : x < nN (nAt cd ad h i) := by rw [e]; exact k1.2.2.2.2.2.1 _ (by omega)
          refine ⟨by omega, ?_⟩
          rw [t2 x hlt, u2 x hlt]
          have er : (aRun cd r i).2.2.2.2.1 ((aRun cd r i).2.1 - 1) = vr x := by
            rw [e, s1.1]
            exact s1.2.2.1 _ (by omega)
          have ea : (aRun cd a i).2.2.2.2.1 ((aRun cd a i).2.1 - 1) = va x := by
            rw [e, s2.1]
            exact s2.2.2.1 _ (by omega)
          obtain ⟨w1, w2⟩ := hrec i (by omega)
          obtain ⟨z1, z2⟩ := hg i (by omega)
          rw [r1] at w1 w2
          rw [a1] at z1 z2
          by_cases h7 : aop cd (ad i) = 7 ∨ aop cd (ad i) = 8
          · have n1 : ¬ vr x = 0 := by
              intro q
              rw [← er] at q
              rw [(abrk_iff _ _ _ _).mpr ⟨h7, q⟩] at w1
              cases w1
            have n2 : ¬ va x = 0 := by
              intro q
              rw [← ea] at q
              rw [(abrk_iff _ _ _ _).mpr ⟨h7, q⟩] at z1
              cases z1
            exact ⟨fun q => absurd q n2, fun q => absurd q n1⟩
          · have h22 : aop cd (ad i) = 22 ∨ aop cd (ad i) = 23 := by omega
            unfold achoice at w2 z2
            rw [if_pos h22, er] at w2
            rw [if_pos h22, ea] at z2
            rw [← w2] at z2
            constructor
            · intro q
              rw [if_pos q] at z2
              by_cases q2 : vr x = 0
              · exact q2
              · rw [if_neg q2] at z2
                exact absurd z2 (by decide)
            · intro q
              rw [if_pos q] at z2
              by_cases q2 : va x = 0
              · exact q2
              · rw [if_neg q2] at z2
                exact absurd z2 (by decide)
        · rw [nSet_ne _ _ e] at hx
          exact old hx
    · rw [if_neg ho] at hgr
      have e3 : nGd (nStep cd i (ad i) (nAt cd ad h i)) = nGd (nAt cd ad h i) := congrArg (fun z => z.2.2) hgr
      rw [e3] at hx
      exact old hx
/-- guards stay -/
theorem nAt_guard_stays (V : aV m cd H) (P : aPath cd len ad g) (hh : H (ad 0) = some h) {k x : Nat} : ∀ i, k ≤ i → i ≤ len → (∃ j, j < nGs (nAt cd ad h k) ∧ nGa (nAt cd ad h k) j = x) → ∃ j, j < nGs (nAt cd ad h i) ∧ nGa (nAt cd ad h i) j = x := by
  intro i
  induction i with
  | zero =>
    intro h1 _ h2
    have : k = 0 := by omega
    subst this
    exact h2
  | succ i ih =>
    intro h1 h2 h3
    by_cases e : k = i + 1
    · subst e
      exact h3
    · obtain ⟨j, j1, j2⟩ := ih (by omega) (by omega) h3
      obtain ⟨b1, b2⟩ := nAt_go V P hh (i := i) (by omega)
      have hgr := nStep_guards (cd := cd) (k := i) (p := ad i) (v := nAt cd ad h i) b1.1
      rw [nAt_succ]
      have key : ∀ y, nGrd (nStep cd i (ad i) (nAt cd ad h i)) = nGrd (nGuard y i (nAt cd ad h i)) → ∃ j, j < nGs (nStep cd i (ad i) (nAt cd ad h i)) ∧ nGa (nStep cd i (ad i) (nAt cd ad h i)) j = x := by
        intro y hy
        have e1 : nGs (nStep cd i (ad i) (nAt cd ad h i)) = nGs (nGuard y i (nAt cd ad h i)) := congrArg (fun z => z.1) hy
        have e2 : nGa (nStep cd i (ad i) (nAt cd ad h i)) = nGa (nGuard y i (nAt cd ad h i)) := congrArg (fun z => z.2.1) hy
        rw [e1, e2]
        unfold nGuard
        split
        · exact ⟨j, j1, j2⟩
        · refine ⟨j, Nat.lt_succ_of_lt j1, ?_⟩
          show nSet (nGa (nAt cd ad h i)) (nGs (nAt cd ad h i)) i j = x
          rw [nSet_ne _ _ (by omega)]
          exact j2
      by_cases ho : aop cd (ad i) = 7 ∨ aop cd (ad i) = 8 ∨ aop cd (ad i) = 22 ∨ aop cd (ad i) = 23
      · rw [if_pos ho] at hgr
        exact key _ hgr
      · rw [if_neg ho] at hgr
        have e1 : nGs (nStep cd i (ad i) (nAt cd ad h i)) = nGs (nAt cd ad h i) := congrArg (fun z => z.1) hgr
        have e2 : nGa (nStep cd i (ad i) (nAt cd ad h i)) = nGa (nAt cd ad h i) := congrArg (fun z => z.2.1) hgr
        rw [e1, e2]
        exact ⟨j, j1, j2⟩
/-- A PASS IS LEFT ONLY AT A GUARD -/
theorem left_at_guard (V : aV m cd H) (P : aPath cd len ad g) (hh : H (ad 0) = some h) (hlen : len ≤ 48) {r a : am} (hr1 : r.1 = ad 0) (hr2 : r.2.1 = h) (ha1 : a.1 = ad 0) (ha2 : a.2.1 = h) (hrec : ∀ j, j < len → aGoes cd g r j)
    {k : Nat} (hk : k < len) (hg : ∀ j, j < k → aGoes cd g a j) (hno : ¬ aGoes cd g a k) : ∃ j, j < nGs (nAt cd ad h len) ∧ nGa (nAt cd ad h len) j = k := by
  obtain ⟨vr, va, s1, s2, s3⟩ := two_runs V P hh hlen hr1 hr2 ha1 ha2 hrec k (by omega) hg
  obtain ⟨r1, r2⟩ := aRun_at V P hh hr1 hr2 k (by omega) (fun j hj => hrec j (by omega))
  obtain ⟨a1, a2⟩ := aRun_at V P hh ha1 ha2 k (by omega) hg
  obtain ⟨k1, k2, k3, k4, k5⟩ := nAt_ok V P hh k (by omega)
  obtain ⟨b1, b2⟩ := nAt_go V P hh (i := k) (by omega)
  obtain ⟨w1, w2⟩ := hrec k hk
  obtain ⟨p1, p2, p3, p4⟩ := P k hk
  have ho : aop cd (ad k) = 7 ∨ aop cd (ad k) = 8 ∨ aop cd (ad k) = 22 ∨ aop cd (ad k) = 23 := by
    by_cases q : aop cd (ad k) = 7 ∨ aop cd (ad k) = 8 ∨ aop cd (ad k) = 22 ∨ aop cd (ad k) = 23
    · exact q
    · exfalso
      apply hno
      refine ⟨?_, ?_⟩
      · cases hb : abrk cd (aRun cd a k).1 (aRun cd a k).2.1 (aRun cd a k).2.2.2.2.1 with
        | false => rfl
        | true =>
          have := ((abrk_iff _ _ _ _).mp hb).1
          rw [a1] at this
          omega
      · rw [a1]
        unfold achoice
        rw [if_neg (by omega)]
        exact (p4 (by omega)).symm
  have ht : 1 ≤ nHi (nAt cd ad h k) := by
    have := b1.2.1
    rcases ho with q | q | q | q <;> (rw [q] at this; simp [tk] at this; omega)
  generalize hx : nStk (nAt cd ad h k) (nHi (nAt cd ad h k) - 1) = x at *
  have hlt : x < nN (nAt cd ad h k) := by rw [← hx]; exact k1.2.2.2.2.2.1 _ (by omega)
  have er : (aRun cd r k).2.2.2.2.1 ((aRun cd r k).2.1 - 1) = vr x := by
    rw [← hx, s1.1]
    exact s1.2.2.1 _ (by omega)
  have ea : (aRun cd a k).2.2.2.2.1 ((aRun cd a k).2.1 - 1) = va x := by
    rw [← hx, s2.1]
    exact s2.2.2.1 _ (by omega)
  rw [r1] at w1 w2
  have diff : ¬ (va x = 0 ↔ vr x = 0) := by
    intro q
    apply hno
    unfold aGoes
    rw [a1]
    by_cases h7 : aop cd (ad k) = 7 ∨ aop cd (ad k) = 8
    · have n1 : ¬ vr x = 0 := by
        intro z
        rw [← er] at z
        rw [(abrk_iff _ _ _ _).mpr ⟨h7, z⟩] at w1
        cases w1
      refine ⟨?_, ?_⟩
      · cases hb : abrk cd (ad k) (aRun cd a k).2.1 (aRun cd a k).2.2.2.2.1 with
        | false => rfl
        | true =>
          have := ((abrk_iff _ _ _ _).mp hb).2
          rw [ea] at this
          exact absurd (q.mp this) n1
      · unfold achoice
        rw [if_neg (by omega)]
        exact (p4 (by omega)).symm
    · have h22 : aop cd (ad k) = 22 ∨ aop cd (ad k) = 23 := by omega
      refine ⟨?_, ?_⟩
      · cases hb : abrk cd (ad k) (aRun cd a k).2.1 (aRun cd a k).2.2.2.2.1 with
        | false => rfl
        | true => exact absurd ((abrk_iff _ _ _ _).mp hb).1 h7
      · rw [← w2]
        unfold achoice
        rw [if_pos h22, if_pos h22, er, ea]
        by_cases z : vr x = 0
        · rw [if_pos z, if_pos (q.mpr z)]
        · rw [if_neg z, if_neg (fun z2 => z (q.mp z2))]
  have hnc : ¬ (nCon (nAt cd ad h k) x = true ∨ nGd (nAt cd ad h k) x = true) := by
    intro q
    rcases q with q | q
    · have e1 := nCon_val s1 hlt q
      have e2 := nCon_val s2 hlt q
      exact diff (by rw [e1, e2])
    · exact diff (s3 x q).2
  refine nAt_guard_stays V P hh (k := k + 1) len (by omega) (Nat.le_refl _) ?_
  have hgr := nStep_guards (cd := cd) (k := k) (p := ad k) (v := nAt cd ad h k) b1.1
  rw [if_pos ho, hx] at hgr
  rw [nAt_succ]
  have e1 : nGs (nStep cd k (ad k) (nAt cd ad h k)) = nGs (nGuard x k (nAt cd ad h k)) := congrArg (fun z => z.1) hgr
  have e2 : nGa (nStep cd k (ad k) (nAt cd ad h k)) = nGa (nGuard x k (nAt cd ad h k)) := congrArg (fun z => z.2.1) hgr
  rw [e1, e2]
  unfold nGuard
  rw [if_neg hnc]
  exact ⟨nGs (nAt cd ad h k), Nat.lt_succ_self _, nSet_same _ _ _⟩
/-- no division by a constant 0 comes up in what was recorded -/
theorem rec_fine (V : aV m cd H) (P : aPath cd len ad g) (hh : H (ad 0) = some h) (hlen : len ≤ 48) {r : am} (hr1 : r.1 = ad 0) (hr2 : r.2.1 = h) (hrec : ∀ j, j < len → aGoes cd g r j) {i : Nat} (hi : i < len) : nFine cd (ad i) (nAt cd ad h i) := by
  obtain ⟨vr, va, s1, s2, s3⟩ := two_runs V P hh hlen hr1 hr2 hr1 hr2 hrec i (by omega) (fun j hj => hrec j (by omega))
  obtain ⟨r1, r2⟩ := aRun_at V P hh hr1 hr2 i (by omega) (fun j hj => hrec j (by omega))
  obtain ⟨k1, k2, k3, k4, k5⟩ := nAt_ok V P hh i (by omega)
  obtain ⟨b1, b2⟩ := nAt_go V P hh (i := i) (by omega)
  obtain ⟨w1, w2⟩ := hrec i hi
  intro h7 hc _ hz
  have ht : 1 ≤ nHi (nAt cd ad h i) := by
    have := b1.2.1
    rcases h7 with q | q <;> (rw [q] at this; simp [tk] at this; omega)
  have hlt := k1.2.2.2.2.2.1 (nHi (nAt cd ad h i) - 1) (by omega)
  have e1 := nCon_val s1 hlt hc
  have er : (aRun cd r i).2.2.2.2.1 ((aRun cd r i).2.1 - 1) = vr (nStk (nAt cd ad h i) (nHi (nAt cd ad h i) - 1)) := by
    rw [s1.1]
    exact s1.2.2.1 _ (by omega)
  rw [r1] at w1
  rw [(abrk_iff _ _ _ _).mpr ⟨h7, by rw [er, e1, hz]⟩] at w1
  cases w1
end TWO
