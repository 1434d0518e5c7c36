/-! the model's whole plain step -/
section PLO
variable {d : Nat} {c : zm} {s : ms} {th : Nat} {pn : Int32} {X : xs} {N : Nat} {H : Nat → Option Nat}
theorem xCut_st (Y : xs) (v : Nat) : xCut (xsSt Y v) = xsSt (xCut Y) v := by
  unfold xCut
  rw [show xR (xsSt Y v) = xR Y from rfl]
  cases xR Y with
  | none => rfl
  | some r =>
    dsimp only
    cases r.2.1 <;> rfl
theorem RM.pc (R : RM th pn s X) : yI (put c s) 1031 6 = Int32.ofNat (xPc X) := by
  obtain ⟨sl, Ra, -⟩ := R
  exact Ra.1
theorem RM.cd (R : RM th pn s X) : yA (put c s) 1032 = xC X := by
  obtain ⟨sl, Ra, -⟩ := R
  exact Ra.2.2.2.2.2.2.2.2.2.2.1
theorem c9_plain116 {F : zm → Prop} (R : RM th 0 s X) (G : xGood N H X) {was h : Nat} {stk : Nat → Int32} {a2 : Int32} (hw : H was = some h) (hx : xPc X = anext (aop (xC X) was) (aarg (xC X) was) was h stk) (hr : ∀ r, xR X = some r → 0 < pLn r.2.2)
    (k : ∀ s', RM th 0 s' (xEnd (xWarm th was X)) → F (put c s')) : zGo (d + 6) m_X9_plainStep 116 [.ref 1031, .int (Int32.ofNat was), .int a2, zJ] [] (yz (put c s)) (zKv F) := by
  have hm := G.1.2.1
  have hpm := G.lt
  have hwm := (G.1.2.2.2 _ _ hw).1
  have h63 := (aop_eq (xC X) was).2
  refine B_X9_plainStep_116 _ _ ?_
  refine c9_op R.cd (show was < 200 by omega) ?_
  refine c9_jumps (by omega) ?_
  by_cases cj : aop (xC X) was = 21 ∨ aop (xC X) was = 22 ∨ aop (xC X) was = 23
  · rw [if_pos cj, R.pc, n_lt (by omega) (by omega)]
    refine ⟨fun z => absurd z (by decide), fun _ => ⟨fun z => ?_, fun z => ?_⟩⟩
    · refine c9_plain162 R G ?_ hr k
      exact propext ⟨fun _ q => absurd z (Nat.not_lt.mpr q.2), fun _ => rfl⟩
    · have hb : xBack (xC X) was (xPc X) := ⟨cj, Nat.le_of_not_lt z⟩
      have one : ((1 : Int32) = 0) = ¬ xBack (xC X) was (xPc X) := propext ⟨fun q => absurd q (by decide), fun q => absurd hb q⟩
      refine c9_op R.cd (show was < 200 by omega) ?_
      rw [n_lit 21, n_eq (by omega) (by decide)]
      refine ⟨fun _ => c9_plain162 R G one hr k, fun n21 => ?_⟩
      refine c9_arg R.cd (show was < 200 by omega) ?_
      rw [R.pc]
      refine ⟨fun _ => c9_plain162 R G one hr k, fun z9 => absurd ?_ z9⟩
      rw [hx]
      exact anext_le G.1 hw (by rw [← hx]; exact Nat.le_of_not_lt z) cj n21
  · rw [if_neg cj]
    refine ⟨fun _ => ?_, fun z => absurd rfl z⟩
    refine c9_plain162 R G ?_ hr k
    exact propext ⟨fun _ q => cj q.1, fun _ => rfl⟩
theorem c9_plain27 {F : zm → Prop} (R : RM th 0 s X) (G : xGood N H X) (hN : N < 2000000000) (hr : ∀ r, xR X = some r → pLn r.2.2 < 48 ∧ ¬ aop (xC X) (xPc X) = 0)
    (k : ∀ s', RM th 0 s' (xEnd (xStep th X)) → F (put c s')) : zGo (d + 6) m_X9_plainStep 27 [.ref 1031, zJ, zJ, zJ] [] (yz (put c s)) (zKv F) := by
  have hm := G.1.2.1
  have hpm := G.lt
  have h63 := (aop_eq (xC X) (xPc X)).2
  obtain ⟨sl, Ra, Rr, Rt⟩ := id R
  refine B_X9_plainStep_27 ?_
  refine c9_brk Ra G ?_
  rw [if01]
  unfold xStep at k
  refine ⟨fun hb0 => ?_, fun hb1 => ?_⟩
  · have hb : ¬ xBrk X = true := by rw [hb0]; decide
    rw [if_neg hb] at k
    refine c9_ch Ra G ?_
    refine c9_actw Ra G hb hN ?_
    have R1 : RM th 0 (pmM s (astep (xC X) (xA X))) (xsA X (astep (xC X) (xA X))) := R.mach _
    rw [R.pc]
    refine c9_op R1.cd (show xPc X < 200 by omega) ?_
    rw [show xC (xsA X (astep (xC X) (xA X))) = xC X from rfl, show ((Int32.ofNat (aop (xC X) (xPc X)) = 0) = (aop (xC X) (xPc X) = 0)) from n_eq (by omega) (by decide)]
    refine ⟨fun h0 => ?_, fun h0 => ?_⟩
    · rw [if_pos h0] at k
      have hn : xR X = none := by
        cases h : xR X with
        | none => rfl
        | some r => exact absurd h0 (hr r h).2
      rw [xEnd_none (show xR (xsSt (xsA X (astep (xC X) (xA X))) 3) = none from hn)] at k
      rw [p_I]
      exact k _ (R1.st 3)
    · rw [if_neg h0] at k
      have G1 := G.note hb h0 (fun r h => (hr r h).1)
      have hx : xPc (xNote X) = anext (aop (xC (xNote X)) (xPc X)) (aarg (xC (xNote X)) (xPc X)) (xPc X) (xA X).2.1 (xA X).2.2.2.2.1 := rfl
      have hw : H (xPc X) = some (xA X).2.1 := G.2.2.2.1
      have hon := R1.on
      rw [show (yI (put c (pmM s (astep (xC X) (xA X)))) 1031 42 < 0) = (xR X = none) from hon]
      cases h : xR X with
      | none =>
        refine ⟨fun _ => ?_, fun z => absurd rfl z⟩
        have en : xNote X = xsA X (astep (xC X) (xA X)) := by
          unfold xNote
          rw [h]
          show (_, _, _, _, _, _, _, _, none, _) = ((_, _, _, _, _, _, _, _, xR X, _) : xs)
          rw [h]
          rfl
        rw [← en] at R1
        refine c9_plain116 R1 G1 hw hx (fun r hr' => ?_) k
        rw [en] at hr'
        have hr' : xR X = some r := hr'
        rw [h] at hr'
        cases hr'
      | some r =>
        refine ⟨fun z => (by cases z), fun _ => ?_⟩
        obtain ⟨sl1, Ra1, Rr1, Rt1⟩ := id R1
        have hat : (xA X).1 = pAd r.2.2 (pLn r.2.2) := rOk_at G.1 (G.2.2.2.2.2 r h)
        have Rr1' := Rr1
        rw [show xR (xsA X (astep (xC X) (xA X))) = some r from h] at Rr1'
        have hl := (hr r h).1
        rw [show yI (put c (pmM s (astep (xC X) (xA X)))) 1031 46 = Int32.ofNat (pLn r.2.2) from Rr1'.2.2.2.2.1, n_cl (by omega), show (Int32.ofNat (pLn r.2.2) + 1 : Int32) = Int32.ofNat (pLn r.2.2 + 1) from n_add _ 1]
        refine ⟨n_in hl (by decide), n_in hl (by decide), ?_⟩
        rw [p_A _ _ _ _ _ rfl, p_A _ _ _ _ _ rfl, p_I]
        have R2 := RM.add (q := (astep (xC X) (xA X)).1) (ch := xCh X) (a := xPc X) Ra1 Rr1 Rt1 h hl hat
        have en : xNote X = xsR (xsA X (astep (xC X) (xA X))) (some (r.1, r.2.1, pAdd r.2.2 (xCh X) (astep (xC X) (xA X)).1)) := by
          unfold xNote
          rw [h]
          rfl
        rw [← en] at R2
        refine c9_plain116 R2 G1 hw hx (fun r' hr' => ?_) k
        rw [en] at hr'
        have hr' : some (r.1, r.2.1, pAdd r.2.2 (xCh X) (astep (xC X) (xA X)).1) = some r' := hr'
        cases hr'
        show 0 < pLn r.2.2 + 1
        omega
  · have hb : xBrk X = true := by
      cases h : xBrk X with
      | false => exact absurd h hb1
      | true => rfl
    rw [if_pos hb, xEnd_none (xCut_R _), xCut_st] at k
    rw [show (yI (put c s) 1031 42 < 0) = (xR X = none) from R.on]
    cases h : xR X with
    | none =>
      refine ⟨fun _ => ?_, fun z => absurd rfl z⟩
      have : xCut X = X := by
        unfold xCut
        rw [h]
      rw [this] at k
      rw [p_I]
      exact k _ (R.st 4)
    | some r =>
      refine ⟨fun z => (by cases z), fun _ => ?_⟩
      refine c9_cutOff R h (fun j hj => ?_) (fun s' R' => ?_)
      · obtain ⟨T, hT, hj2, -⟩ := (G.2.2.2.2.2 r h).tr hj
        exact ⟨T, hT, hj2⟩
      · rw [p_I]
        exact k _ (R'.st 4)
theorem c9_plainStep {F : zm → Prop} (R : RM th pn s X) (G : xGood N H X) (hN : N < 2000000000) (h48 : ∀ r, xR X = some r → pLn r.2.2 < 48)
    (k : ∀ s', RM th 0 s' (xEnd (xStep th (xDue X))) → F (put c s')) : zGo (d + 6) m_X9_plainStep 0 [.ref 1031, zJ, zJ, zJ] [] (yz (put c s)) (zKv F) := by
  have hm := G.1.2.1
  have hpm := G.lt
  have h63 := (aop_eq (xC X) (xPc X)).2
  obtain ⟨G1, s1, a1, r1⟩ := G.due
  have R0 : RM th 0 (tI s 19 0) X := R.pnx 0
  refine B_X9_plainStep_0 ?_
  rw [show (yI (put c s) 1031 42 < 0) = (xR X = none) from R.on, p_I, R.pc]
  cases h : xR X with
  | none =>
    refine ⟨fun _ => ?_, fun z => absurd rfl z⟩
    have e : xDue X = X := by
      unfold xDue
      rw [h]
    rw [e] at k r1
    exact c9_plain27 R0 G hN r1 k
  | some r =>
    refine ⟨fun z => (by cases z), fun _ => ?_⟩
    refine c9_op R0.cd (show xPc X < 200 by omega) ?_
    rw [show ((Int32.ofNat (aop (xC X) (xPc X)) = 0) = (aop (xC X) (xPc X) = 0)) from n_eq (by omega) (by decide)]
    refine ⟨fun h0 => ?_, fun h0 => ?_⟩
    · have e : xDue X = xCut X := by
        unfold xDue
        rw [h]
        exact if_pos (Or.inr h0)
      rw [e] at k r1 G1
      refine c9_cutOff R0 h (fun j hj => ?_) (fun s' R' => c9_plain27 R' G1 hN r1 k)
      obtain ⟨T, hT, hj2, -⟩ := (G.2.2.2.2.2 r h).tr hj
      exact ⟨T, hT, hj2⟩
    · have e : xDue X = X := by
        unfold xDue
        rw [h]
        exact if_neg (fun z => z.elim (fun q => by have := h48 r h; omega) h0)
      rw [e] at k r1
      exact c9_plain27 R0 G hN r1 k
end PLO
