/-! the class's pass -/
section PSD
variable {d : Nat} {e w : zm} {u : Nat × Nat} {th : Nat} {X : xs} {N : Nat} {H : Nat → Option Nat}
theorem xHow_0 (X : xs) (p : pth) : xHow (xPass0 X) p = xHow X p := rfl
theorem c1_folr {F : Int32 → zm → Prop} (R : RC e u th w X) (G : xGood N H X) {p : pth} {q : Nat} (P : pOk (xC X) H p) (hpc : xPc X = pAd p 0) (hq : yP w q) (hc : pHc (xC X) (yI w) (yA w) q p) (hN : N + 48 < 2000000000) (k : ∀ w', RC e u th w' (xsA X (afol (xC X) (pGo p) (pLn p) 0 (xA X)).2) → dyn w w' → F (Int32.ofNat (xHow X p)) w') : zGo (d + 4) m_X1_follow 0 [.ref 1007, .ref q, zJ, zJ, zJ, zJ] [] (yz w) (zKi F) :=
  c1_folw R G P hpc hq hc hN (k _ (R.mach _) (dyn_putm w _))
theorem xRound_sw (Y : xs) (a : Nat) : xMod (xsN Y 2 1) a tRound = xRound Y a := rfl
theorem xPass0_sw (X : xs) : xMod (xsN X 1 1) (xPc X) tBegun = xPass0 X := rfl
theorem RC.round {Y : xs} {a p : Nat} {T : tr} (R : RC e u th w Y) (ha : a < 200) (hT : xT Y a = some T) (hp : yQ w 1023 a = some p) : RC e u th (yuI (yuL w 1000 10 (yL w 1000 10 + 1)) p 8 (yI w p 8 + 1)) (xRound Y a) := by
  have R3 := R.n2 1
  have R4 := R3.tround (X := xsN Y 2 1) ha hT hp
  rw [xRound_sw] at R4
  exact R4
theorem RC.pass0 {p : Nat} {T : tr} (R : RC e u th w X) (ha : xPc X < 200) (hT : xT X (xPc X) = some T) (hp : yQ w 1023 (xPc X) = some p) : RC e u th (yuI (yuL w 1000 9 (yL w 1000 9 + 1)) p 7 (yI w p 7 + 1)) (xPass0 X) := by
  have R3 := R.n1 1
  have R4 := R3.tbegun (X := xsN X 1 1) ha hT hp
  rw [xPass0_sw] at R4
  exact R4
/-- the guard of a step of a trace -/
theorem c2_guardOf {F : Int32 → zm → Prop} {Y : xs} {a p n j : Nat} {T : tr} (R : RC e u th w Y) (ha : a < 200) (hT : xT Y a = some (tBegun T)) (hp : yQ w 1023 a = some p) (hn : n < pLn (tP T)) (h48 : pLn (tP T) ≤ 48) (hj : j < pGs (xC Y) (tP T)) (hg : pGa (xC Y) (tP T) j = n) (k : F (Int32.ofNat j) w) : zGo d m_X2_guardOf 0 [.ref (p + 1), .int (Int32.ofNat n)] [] (yz w) (zKi F) := by
  obtain ⟨p', q1, t1, c1, -⟩ := R.at ha hT
  rw [hp] at q1
  cases q1
  have c5 : pHc (xC Y) (yI w) (yA w) (p + 1) (tP T) := c1.2.2.2.2.1
  obtain ⟨e4, -, -, -, -, e6⟩ := c5
  have gk := (e6 j hj).1
  rw [hg] at gk
  refine B_X2_guardOf_0 _ _ ?_
  rw [n_neg (by omega), e4, n_lit 48, n_lt (by omega) (by omega), n_lt (by omega) (by decide), n_cl (by omega), gk]
  exact ⟨fun z => z.elim, fun _ => ⟨yT_P t1, fun _ => ⟨fun _ => ⟨n_in (by omega) (by decide), k⟩, fun z => absurd (by omega) z⟩, fun z => absurd hn z⟩⟩
theorem c8_fail {F : Int32 → zm → Prop} {w3 : zm} {T : tr} (R2 : RC e u th w3 (xFol (xPass0 X) (tP T))) (G : xGood N H X) (hs : xSt X = 2) (hR : xR X = none) {left p : Nat} (hT : xT X (xPc X) = some T) (hm : xM X ≤ 200) (hn : xHow X (tP T) < pLn (tP T)) (hl : pLn (tP T) ≤ left) (hN : N + left + 48 < 2000000000) (hp2 : yQ w3 1023 (xPc X) = some p) (a4 : Int32)
    (kB : ∀ w', RC e u th w' (xFailed th (xFol (xPass0 X) (tP T)) (xPc X) (left - xHow X (tP T)) (gIx (pV (xC X) (tP T)) (xHow X (tP T))) T).1 → F (if (xFailed th (xFol (xPass0 X) (tP T)) (xPc X) (left - xHow X (tP T)) (gIx (pV (xC X) (tP T)) (xHow X (tP T))) T).2.2 = true then 1 else 0) w') :
    zGo (d + 5) m_X2_guardOf 0 [.ref (p + 1), .int (Int32.ofNat (xHow X (tP T)))] [] (yz w3) (zKi fun v7 w6 => zGo (d + 5) m_X8_bridgeComesRound 0 [.ref 1000, .ref p, .int v7, .long (Int64.ofNat (N + left)), zJ, zJ, zJ] [] (yz w6) (zKi fun v9 w8 => ((v9 = 0 → zGo (d + 5 + 1) m_X8_passComesRound 136 [.ref 1000, .long (Int64.ofNat (N + left)), zJ, .ref p, .int a4, zJ] [.int (0 : Int32)] (yz w8) (zKi F)) ∧ (¬ v9 = 0 → zGo (d + 5 + 1) m_X8_passComesRound 136 [.ref 1000, .long (Int64.ofNat (N + left)), zJ, .ref p, .int a4, zJ] [.int (1 : Int32)] (yz w8) (zKi F))))) := by
  have hpm : xPc X < xM X := G.lt
  obtain ⟨P, t2, t3, t4, t5⟩ := G.2.2.2.2.1 _ _ hT
  have G0 := G.pass0 hR
  obtain ⟨F1, F2⟩ := G0.fol hR P (show xPc (xPass0 X) = pAd (tP T) 0 from t2.symm)
  rw [xHow_0] at F1 F2
  have hT2 : xT (xFol (xPass0 X) (tP T)) (xPc X) = some (tBegun T) := xMod_same (X := X) hT
  obtain ⟨k1, k2⟩ := G.guard hT hn
  generalize gIx (pV (xC X) (tP T)) (xHow X (tP T)) = j at k1 k2 kB
  have hC : xC (xFol (xPass0 X) (tP T)) = xC X := rfl
  have hM : xM (xFol (xPass0 X) (tP T)) = xM X := rfl
  have hS : xSt (xFol (xPass0 X) (tP T)) = xSt X := rfl
  have hR2 : xR (xFol (xPass0 X) (tP T)) = xR X := rfl
  rw [← hC] at k1 k2
  rw [← hM] at hpm
  rw [← hS] at hs
  rw [← hR2] at hR
  have hb1 : N + left = N + xHow X (tP T) + (left - xHow X (tP T)) := by omega
  rw [hb1]
  generalize xFol (xPass0 X) (tP T) = Z at *
  refine c2_guardOf R2 (by omega) hT2 hp2 hn P.2.1 k1 k2 ?_
  refine c8_bridge R2 F1 hs hR hT2 hpm k1 (by rw [F2, k2]) hp2 (by omega) (fun z w' R' => ?_) (fun Y m hY hYT w' R' hpY => ?_)
  · refine ⟨fun _ => ?_, fun z => absurd rfl z⟩
    refine B_X8_passComesRound_136 _ _ _ _ ⟨fun _ => ⟨Or.inl rfl, ?_⟩, fun z => absurd rfl z⟩
    have := kB w' R'
    rw [z] at this
    exact this
  · refine ⟨fun z => absurd z (by decide), fun _ => ?_⟩
    obtain ⟨T', hT'⟩ := hYT
    obtain ⟨p', q1, t9, -⟩ := R'.at (show xPc X < 200 by omega) hT'
    rw [hpY] at q1
    cases q1
    refine B_X8_passComesRound_136 _ _ _ _ ⟨fun z => absurd z (by decide), fun _ => ⟨t9, Or.inr rfl, ?_⟩⟩
    rw [hY] at kB
    exact kB _ (R'.round (show xPc X < 200 by omega) hT' hpY)
theorem c8_pass {F : Int32 → zm → Prop} (R : RC e u th w X) (G : xGood N H X) (hs : xSt X = 2) {left : Nat} (hl : 0 < left) (hN : N + left + 48 < 2000000000)
    (kA : (∀ T, xAt X = some T → ¬ pLn (tP T) ≤ left) → F 0 w)
    (kB : ∀ T, xAt X = some T → pLn (tP T) ≤ left → ∀ w', RC e u th w' (xPass th left X T).1 → F (if (xPass th left X T).2.2 = true then 1 else 0) w') :
    zGo (d + 6) m_X8_passComesRound 0 [.ref 1000, .long (Int64.ofNat (N + left)), zJ, zJ, zJ, zJ] [] (yz w) (zKi F) := by
  have hm : xM X ≤ 200 := R.1.2.2.2.2.2.2.2.2.1
  have hpm : xPc X < xM X := G.lt
  refine B_X8_passComesRound_0 _ ?_
  refine c4_isOn R.2.1 ?_
  rw [if01]
  cases hR : xR X with
  | some r =>
    refine ⟨fun z => absurd (show true = false from z) (by decide), fun _ => ?_⟩
    refine B_X8_passComesRound_28 _ _ ⟨fun _ => kA (fun T hA => ?_), fun q hq => (by cases hq)⟩
    have := (xAt_some hA).1
    rw [hR] at this
    cases this
  | none =>
    refine ⟨fun _ => ?_, fun z => absurd rfl z⟩
    rw [R.1.1]
    refine c6_find (show xPc X < 200 by omega) ?_
    have hAt : xAt X = xT X (xPc X) := by
      unfold xAt
      rw [hR]
    cases hT : xT X (xPc X) with
    | none =>
      rw [show yQ w 1023 (xA X).1 = none from R.none (show xPc X < 200 by omega) hT]
      refine B_X8_passComesRound_28 _ _ ⟨fun _ => kA (fun T hA => ?_), fun q hq => (by cases hq)⟩
      rw [hAt, hT] at hA
      cases hA
    | some T =>
      have hA : xAt X = some T := hAt.trans hT
      obtain ⟨p, p1, t1, c1, c2⟩ := R.at (show xPc X < 200 by omega) hT
      rw [show yQ w 1023 (xA X).1 = some p from p1]
      obtain ⟨P, t2, t3, t4, t5⟩ := G.2.2.2.2.1 _ _ hT
      have hp48 : pLn (tP T) ≤ 48 := P.2.1
      have hst : yL w 1007 8 = Int64.ofNat N := R.1.2.2.2.1.trans G.2.1
      refine B_X8_passComesRound_28 _ _ ⟨fun z => (by cases z), fun q hq => ?_⟩
      cases hq
      refine ⟨t1, ?_⟩
      rw [c1.2.2.2.2.1.1, hst, l_sub, i_l (by omega), cmp_pos (by omega) (by omega)]
      refine ⟨fun c => kA (fun T' hA' => ?_), fun c => ?_⟩
      · rw [hA] at hA'
        cases hA'
        omega
      · have kB := kB T hA (by omega)
        have G0 := G.pass0 hR
        have R0 : RC e u th (yuI (yuL w 1000 9 (yL w 1000 9 + 1)) p 7 (yI w p 7 + 1)) (xPass0 X) := R.pass0 (show xPc X < 200 by omega) hT p1
        have hT0 : xT (xPass0 X) (xPc X) = some (tBegun T) := xMod_same hT
        have hp0 : yQ (yuI (yuL w 1000 9 (yL w 1000 9 + 1)) p 7 (yI w p 7 + 1)) 1023 (xPc X) = some p := p1
        generalize yuI (yuL w 1000 9 (yL w 1000 9 + 1)) p 7 (yI w p 7 + 1) = w1 at R0 hp0
        obtain ⟨p', q1, t1', d1, d2⟩ := R0.at (show xPc X < 200 by omega) hT0
        rw [hp0] at q1
        cases q1
        have yPq : yP w1 (p + 1) := yT_P t1'
        have hpc0 : xPc (xPass0 X) = pAd (tP T) 0 := t2.symm
        refine c1_folr R0 G0 P hpc0 yPq d1.2.2.2.2.1 (by omega) (fun w2 R1 D => ?_)
        obtain ⟨dd1, dd2, dd3, dd4, dd5, dd6, dd7, dd8⟩ := D
        have R2 : RC e u th (yuL w2 1000 8 (yL w2 1000 8 + (Int32.ofNat (xHow (xPass0 X) (tP T))).toInt64)) (xFol (xPass0 X) (tP T)) := R1.n0 _
        have hle : xHow X (tP T) ≤ pLn (tP T) := (fol_run (X := xPass0 X) (p := tP T)).1
        have e4 : yI w2 (p + 1) 4 = Int32.ofNat (pLn (tP T)) := by
          rw [dd1 (p + 1) yPq.1]
          exact d1.2.2.2.2.1.1
        have hp2 : yQ (yuL w2 1000 8 (yL w2 1000 8 + (Int32.ofNat (xHow (xPass0 X) (tP T))).toInt64)) 1023 (xPc X) = some p := by
          show yQ w2 1023 (xPc X) = some p
          rw [dd4]
          exact hp0
        refine ⟨yT_of (w := w1) dd5 dd6 t1', ?_⟩
        rw [e4]
        rw [xHow_0] at R2 hp2 ⊢
        rw [n_eq (by omega) (by omega)]
        have hT2 : xT (xFol (xPass0 X) (tP T)) (xPc X) = some (tBegun T) := hT0
        have t13 : yT (yuL w2 1000 8 (yL w2 1000 8 + (Int32.ofNat (xHow X (tP T))).toInt64)) p := yT_of (w := w1) dd5 dd6 t1'
        generalize yuL w2 1000 8 (yL w2 1000 8 + (Int32.ofNat (xHow X (tP T))).toInt64) = w3 at R2 hp2 t13 ⊢
        unfold xPass at kB
        refine ⟨fun c5 => ?_, fun c5 => ?_⟩
        · rw [if_pos c5] at kB
          dsimp only at kB
          rw [if_pos rfl] at kB
          exact B_X8_passComesRound_136 _ _ _ _ ⟨fun z => absurd z (by decide), fun _ => ⟨t13, Or.inr rfl, kB _ (R2.round (show xPc X < 200 by omega) hT2 hp2)⟩⟩
        · rw [if_neg c5] at kB
          exact c8_fail R2 G hs hR hT hm (by omega) (by omega) hN hp2 _ kB
end PSD
