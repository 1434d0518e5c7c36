/-! the model's run is the pure one -/
section RUNM
variable {d : Nat} {c : zm} {s : ms} {th : Nat} {pn : Int32} {X : xs} {N : Nat} {H : Nat → Option Nat}
theorem n_pred {n : Nat} (h : 1 ≤ n) : Int32.ofNat n + (-1) = Int32.ofNat (n - 1) := by
  have h1 : Int32.ofNat n = Int32.ofNat (n - 1) + 1 := by
    rw [show Int32.ofNat (n - 1) + 1 = Int32.ofNat (n - 1 + 1) from n_add _ 1, show n - 1 + 1 = n from by omega]
  rw [h1, Int32.add_assoc, show (1 : Int32) + -1 = 0 from rfl, Int32.add_zero]
theorem RM.st2 (R : RM th pn s X) : yI (put c s) 1031 2 = Int32.ofNat (xSt X) := by
  obtain ⟨sl, Ra, -⟩ := R
  exact Ra.2.2.2.2.2.2.2.2.2.2.2.2.1
theorem RM.pn19 (R : RM th pn s X) : yI (put c s) 1031 19 = pn := by
  obtain ⟨sl, Ra, -⟩ := R
  exact Ra.2.2.2.2.2.2.2.2.2.2.2.2.2.2.2.2.2.2.2.2.2.1
theorem RM.sz (R : RM th pn s X) {r : rk} (h : xR X = some r) : yI (put c s) 1031 46 = Int32.ofNat (pLn r.2.2) := by
  obtain ⟨sl, Ra, Rr, Rt⟩ := R
  rw [h] at Rr
  exact Rr.2.2.2.2.1
/-- no trace is looked for: a plain step -/
theorem c9_runp {F : Int32 → zm → Prop} {a1 : Int32} {left : Nat} {ua : Value} (hua : zisL ua = false) (R : RM th pn s X) (G : xGood N H X) (hs : xSt X = 2) (hl : 0 < left) (h100 : left ≤ 100000) (hN : N < 2000000000) (hp : xR X = none → ¬ pn = 0) (h48 : ∀ r, xR X = some r → pLn r.2.2 < 48)
    (k : ∀ s', RM th 0 s' (xEnd (xStep th (xDue X))) → zGo (d + 7) m_X9_run 43 [.ref 1031, .int a1, .int (Int32.ofNat (left - 1)), .int (-1)] [] (yz (put c s')) (zKi F)) : zGo (d + 7) m_X9_run 43 [.ref 1031, .int a1, .int (Int32.ofNat left), ua] [] (yz (put c s)) (zKi F) := by
  have go101 : zGo (d + 7) m_X9_run 101 [.ref 1031, .int a1, .int (Int32.ofNat left), ua] [.int (-1)] (yz (put c s)) (zKi F) := by
    refine B_X9_run_101 _ _ _ _ hua ⟨fun _ => ?_, fun z => absurd (show (-1 : Int32) < 0 by decide) z⟩
    rw [n_pred hl]
    exact c9_plainStep R G hN h48 k
  have go75 : zGo (d + 7) m_X9_run 75 [.ref 1031, .int a1, .int (Int32.ofNat left), ua] [] (yz (put c s)) (zKi F) := by
    refine B_X9_run_75 _ _ _ hua ?_
    rw [show (yI (put c s) 1031 42 < 0) = (xR X = none) from R.on, R.pn19]
    exact ⟨fun z => ⟨fun q => absurd q (hp z), fun _ => go101⟩, fun _ => go101⟩
  refine B_X9_run_43 _ _ _ hua ?_
  rw [show ((0 : Int32) < Int32.ofNat left) = (0 < left) from n_lt (a := 0) (by decide) (by omega), R.st2, hs, show (yI (put c s) 1031 42 < 0) = (xR X = none) from R.on]
  refine ⟨fun _ => ⟨fun _ => ⟨fun _ => go75, fun z => ?_⟩, fun z => absurd rfl z⟩, fun z => absurd hl z⟩
  cases h : xR X with
  | none => exact absurd h z
  | some r =>
    have := h48 r h
    rw [R.sz h, n_lit 48, n_eq (by omega) (by decide)]
    exact ⟨fun q => by omega, fun _ => go75⟩
/-- with nothing recorded -/
theorem c9_run75 {F : Int32 → zm → Prop} {a1 : Int32} {left : Nat} {ua : Value} (hua : zisL ua = false) (R : RM th 0 s X) (G : xGood N H X) (hs : xSt X = 2) (hl : 0 < left) (h100 : left ≤ 100000) (hN : N + left + 48 < 2000000000) (hR : xR X = none)
    (k : ∀ s' ua, zisL ua = false → RM th 0 s' (xTurn0 th left X).1 → zGo (d + 7) m_X9_run 43 [.ref 1031, .int a1, .int (Int32.ofNat (xTurn0 th left X).2), ua] [] (yz (put c s')) (zKi F)) : zGo (d + 7) m_X9_run 75 [.ref 1031, .int a1, .int (Int32.ofNat left), ua] [] (yz (put c s)) (zKi F) := by
  have hm := G.1.2.1
  have hpm := G.lt
  have eD : xDue X = X := by
    unfold xDue
    rw [hR]
  have plain : ∀ s0 : Int32, xTurn0 th left X = xPlain th left X → zGo (d + 6) m_X9_plainStep 0 [.ref 1031, zJ, zJ, zJ] [] (yz (put c s)) (zKv fun w1 => zGo (d + 7) m_X9_run 43 [.ref 1031, .int a1, .int (Int32.ofNat left + (-1)), .int s0] [] (yz w1) (zKi F)) := by
    intro s0 e
    rw [e] at k
    rw [n_pred hl]
    refine c9_plainStep R G (by omega) (fun r h => by rw [hR] at h; cases h) (fun s' R' => ?_)
    rw [eD] at R'
    exact k s' _ rfl R'
  refine B_X9_run_75 _ _ _ hua ?_
  rw [show (yI (put c s) 1031 42 < 0) = (xR X = none) from R.on, R.pn19, R.pc]
  refine ⟨fun _ => ⟨fun _ => ?_, fun z => absurd rfl z⟩, fun z => absurd hR z⟩
  obtain ⟨sl, Ra, Rr, Rt⟩ := id R
  have hAt : xAt X = xT X (xPc X) := by
    unfold xAt
    rw [hR]
  refine c9_slot Rt (show xPc X < 200 by omega) (fun t T t1 t2 t3 t4 => ?_) (fun t3 => ?_)
  · have hA : xAt X = some T := hAt.trans t3
    have h48 : pLn (tP T) ≤ 48 := t4.2.2.2.2.2.2.2.2.2.2.2.1
    refine B_X9_run_101 _ _ _ _ hua ?_
    have g40 : yA (put c s) 1040 t = Int32.ofNat (pLn (tP T)) := t4.1
    rw [n_neg (by omega), n_cl (by omega), g40, n_lt (by omega) (by omega)]
    refine ⟨fun z => z.elim, fun _ => ⟨n_in t1 (by decide), fun c1 => ?_, fun c1 => ?_⟩⟩
    · refine plain _ (xTurn0_none (fun T' hA' => ?_))
      rw [hA] at hA'
      cases hA'
      omega
    · have hl2 : pLn (tP T) ≤ left := by omega
      obtain ⟨q1, q2, q3, q4⟩ := G.pass th hs hA hl2
      rw [xTurn0_some hA hl2] at k
      refine c9_pass (sl := sl) ⟨Ra, Rr, Rt⟩ G hR t1 t2 t3 hl2 hN h100 (fun s' R' => ?_)
      generalize xPass th left X T = Q at *
      cases hb : Q.2.2 with
      | true =>
        rw [hb, if_pos rfl] at k
        rw [hb] at R'
        obtain ⟨z1, z2, z3⟩ := q3 hb
        rw [n_sub z2]
        exact k s' _ rfl R'
      | false =>
        rw [hb, if_neg (by decide)] at k
        rw [hb] at R'
        obtain ⟨z1, z2⟩ := q4 hb
        rw [n_sub (by omega)]
        refine c9_runp rfl R' q1 q2 (by omega) (by omega) (by omega) (fun _ => by decide) (fun r h => (z2 r h).1) (fun s'' R'' => ?_)
        have eQ : xDue Q.1 = Q.1 := by
          unfold xDue
          cases h : xR Q.1 with
          | none => rfl
          | some r =>
            dsimp only
            have := z2 r h
            exact if_neg (fun q => q.elim (fun q => by omega) this.2)
        rw [eQ] at R''
        exact k s'' _ rfl R''
  · refine B_X9_run_101 _ _ _ _ hua ⟨fun _ => ?_, fun z => absurd (show (-1 : Int32) < 0 by decide) z⟩
    refine plain _ (xTurn0_none (fun T' hA' => ?_))
    rw [hAt, t3] at hA'
    cases hA'
theorem xGood.noHalt (G : xGood N H X) {a : Nat} {T : tr} (hT : xT X a = some T) : ¬ aop (xC X) a = 0 := by
  obtain ⟨P, t2, -⟩ := G.2.2.2.2.1 _ _ hT
  have := (P.2.2.2.1 0 P.1).1
  rw [t2] at this
  exact this
theorem c9_turn {F : Int32 → zm → Prop} {a1 : Int32} {left : Nat} {ua : Value} (hua : zisL ua = false) (R : RM th 0 s X) (G : xGood N H X) (hs : xSt X = 2) (hl : 0 < left) (h100 : left ≤ 100000) (hN : N + left + 48 < 2000000000)
    (k : ∀ s' ua, zisL ua = false → RM th 0 s' (xTurn th left X).1 → zGo (d + 7) m_X9_run 43 [.ref 1031, .int a1, .int (Int32.ofNat (xTurn th left X).2), ua] [] (yz (put c s')) (zKi F)) : zGo (d + 7) m_X9_run 43 [.ref 1031, .int a1, .int (Int32.ofNat left), ua] [] (yz (put c s)) (zKi F) := by
  obtain ⟨G1, s1, a1', r1⟩ := G.due
  unfold xTurn at k
  cases h : xR X with
  | none =>
    have eD : xDue X = X := by
      unfold xDue
      rw [h]
    rw [eD] at k
    refine B_X9_run_43 _ _ _ hua ?_
    rw [show ((0 : Int32) < Int32.ofNat left) = (0 < left) from n_lt (a := 0) (by decide) (by omega), R.st2, hs, show (yI (put c s) 1031 42 < 0) = (xR X = none) from R.on]
    exact ⟨fun _ => ⟨fun _ => ⟨fun _ => c9_run75 hua R G hs hl h100 hN h k, fun z => absurd h z⟩, fun z => absurd rfl z⟩, fun z => absurd hl z⟩
  | some r =>
    have ro := G.2.2.2.2.2 r h
    by_cases c48 : pLn r.2.2 < 48
    · -- no cut for its length
      refine c9_runp hua R G hs hl h100 (by omega) (fun z => by rw [h] at z; cases z) (fun r' h' => by rw [h] at h'; cases h'; exact c48) (fun s' R' => ?_)
      have eT : xTurn0 th left (xDue X) = xPlain th left (xDue X) := by
        refine xTurn0_none (fun T hA => ?_)
        exfalso
        obtain ⟨z1, z2⟩ := xAt_some hA
        by_cases h0 : aop (xC X) (xPc X) = 0
        · have e : xDue X = xCut X := by
            unfold xDue
            rw [h]
            exact if_pos (Or.inr h0)
          rw [e] at z2 G1
          have := G1.noHalt z2
          obtain ⟨k1, k2, k3, k4, k5⟩ := xCut_keep X
          unfold xPc at this
          rw [k2, k5] at this
          exact this h0
        · have e : xDue X = X := by
            unfold xDue
            rw [h]
            exact if_neg (fun z => z.elim (fun q => by omega) h0)
          rw [e, h] at z1
          cases z1
      rw [eT] at k
      exact k s' _ rfl R'
    · have e48 : pLn r.2.2 = 48 := by have := ro.1; omega
      have eD : xDue X = xCut X := by
        unfold xDue
        rw [h]
        exact if_pos (Or.inl (by omega))
      rw [eD] at k G1 s1
      refine B_X9_run_43 _ _ _ hua ?_
      rw [show ((0 : Int32) < Int32.ofNat left) = (0 < left) from n_lt (a := 0) (by decide) (by omega), R.st2, hs, show (yI (put c s) 1031 42 < 0) = (xR X = none) from R.on, R.sz h, e48]
      refine ⟨fun _ => ⟨fun _ => ⟨fun z => (by rw [h] at z; cases z), fun _ => ⟨fun _ => ?_, fun z => absurd rfl z⟩⟩, fun z => absurd rfl z⟩, fun z => absurd hl z⟩
      refine c9_cutOff R h (fun j hj => ?_) (fun s' R' => c9_run75 hua R' G1 (s1.trans hs) hl h100 hN (xCut_R X) k)
      obtain ⟨T, hT, hj2, -⟩ := ro.tr hj
      exact ⟨T, hT, hj2⟩
theorem c9_loop {F : Int32 → zm → Prop} {a1 : Int32} : ∀ (f left N : Nat) (s : ms) (X : xs) (ua : Value), zisL ua = false → left ≤ f → RM th 0 s X → ((xSt X = 2 ∧ xGood N H X) ∨ (¬ xSt X = 2 ∧ xSt X ≤ 4)) → left ≤ 100000 → N + left + 48 < 2000000000 → (∀ s', RM th 0 s' (xRun th f left X) → F (Int32.ofNat (xSt (xRun th f left X))) (put c s')) → zGo (d + 7) m_X9_run 43 [.ref 1031, .int a1, .int (Int32.ofNat left), ua] [] (yz (put c s)) (zKi F) := by
  have stop : ∀ (left : Nat) (s : ms) (X : xs) (ua : Value), zisL ua = false → RM th 0 s X → xSt X ≤ 4 → left ≤ 100000 → (left = 0 ∨ ¬ xSt X = 2) → F (Int32.ofNat (xSt X)) (put c s) → zGo (d + 7) m_X9_run 43 [.ref 1031, .int a1, .int (Int32.ofNat left), ua] [] (yz (put c s)) (zKi F) := by
    intro left s X ua hua R h4 h100 ho k
    refine B_X9_run_43 _ _ _ hua ?_
    rw [show ((0 : Int32) < Int32.ofNat left) = (0 < left) from n_lt (a := 0) (by decide) (by omega), R.st2, n_lit 2, n_eq (by omega) (by decide)]
    exact ⟨fun z1 => ⟨fun z2 => by omega, fun _ => k⟩, fun _ => k⟩
  intro f
  induction f with
  | zero =>
    intro left N s X ua hua hl R hX h100 hN k
    have h4 : xSt X ≤ 4 := by
      rcases hX with ⟨z, -⟩ | ⟨-, z⟩
      · omega
      · exact z
    exact stop left s X ua hua R h4 h100 (Or.inl (by omega)) (k s R)
  | succ f ih =>
    intro left N s X ua hua hl R hX h100 hN k
    unfold xRun at k
    rcases hX with ⟨hs, G⟩ | ⟨hs, h4⟩
    · by_cases h0 : left = 0
      · rw [if_pos (Or.inl h0)] at k
        exact stop left s X ua hua R (by omega) h100 (Or.inl h0) (k s R)
      · rw [if_neg (fun z => z.elim h0 (fun q => q hs))] at k
        refine c9_turn hua R G hs (by omega) h100 hN (fun s' ua' hua' R' => ?_)
        obtain ⟨t1, t2⟩ := G.turn th (left := left) hs (by omega)
        refine ih (xTurn th left X).2 (N + left - (xTurn th left X).2) s' (xTurn th left X).1 ua' hua' (by omega) R' ?_ (by omega) (by omega) k
        rcases t2 with ⟨z1, z2⟩ | ⟨z1, M, z2, z3⟩
        · exact Or.inl ⟨z1, z2⟩
        · exact Or.inr ⟨z1, z3.2.1⟩
    · rw [if_pos (Or.inr hs)] at k
      exact stop left s X ua hua R h4 h100 (Or.inr hs) (k s R)
end RUNM
