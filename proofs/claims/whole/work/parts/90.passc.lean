/-! the class's pass is the pure one -/
section PSC
variable {d : Nat} {e w : zm} {u : Nat × Nat} {th : Nat} {X : xs} {N : Nat} {H : Nat → Option Nat}
theorem c1_folw {F : Int32 → zm → Prop} (R : RC e u th w X) (G : xGood N H X) {p : pth} {q : Nat} (P : pOk (xC X) H p) (hpc : xPc X = pAd p 0) (hq : yP w q) (hc : pHc (xC X) (yI w) (yA w) q p) (hN : N + 48 < 2000000000) (k : F (Int32.ofNat (xHow X p)) (putm w (afol (xC X) (pGo p) (pLn p) 0 (xA X)).2)) : zGo (d + 4) m_X1_follow 0 [.ref 1007, .ref q, zJ, zJ, zJ, zJ] [] (yz w) (zKi F) := by
  have hv := G.2.2.2.1
  have he := G.2.2.1
  have hw := R.mid
  have hC := R.code
  have V := G.1
  obtain ⟨p1, p2, p3, p4, p5⟩ := P
  unfold xHow at k
  have hpc : (xA X).1 = pAd p 0 := hpc
  generalize xA X = a at hw hv k he hpc
  obtain ⟨pc, h, em, n, stk, loc, mem, out⟩ := a
  have he : em ≤ N := he
  have := c1_follow (d := d) (F := F) hC V p4 hq hc.1 p2 hc.2.2.2.2.1 (n := n) (loc := loc) (mem := mem) (out := out) (stk := stk) (em := em) hpc hv (by omega) k
  rw [← hw] at this
  exact this
theorem c8_bridge {F : Int32 → zm → Prop} (R : RC e u th w X) (G : xGood N H X) (hs : xSt X = 2) (hR : xR X = none) {a left j p : Nat} {T : tr} (hT : xT X a = some (tBegun T)) (ha : a < xM X) (hj : j < pGs (xC X) (tP T)) (hpc : xPc X = pAd (tP T) (pGa (xC X) (tP T) j)) (hp : yQ w 1023 a = some p) (hN : N + left + 48 < 2000000000)
    (k0 : (xFailed th X a left j T).2.2 = false → ∀ w', RC e u th w' (xFailed th X a left j T).1 → F 0 w') (k1 : ∀ Y m, xFailed th X a left j T = (xRound Y a, m, true) → (∃ T', xT Y a = some T') → ∀ w', RC e u th w' Y → yQ w' 1023 a = some p → F 1 w') :
    zGo (d + 5) m_X8_bridgeComesRound 0 [.ref 1000, .ref p, .int (Int32.ofNat j), .long (Int64.ofNat (N + left)), zJ, zJ, zJ] [] (yz w) (zKi F) := by
  have hm : xM X ≤ 200 := R.1.2.2.2.2.2.2.2.2.1
  have ha2 : a < 200 := by omega
  have tk0 := G.2.2.2.2.1 _ _ hT
  obtain ⟨P0, tk1, tk2, tk3, tk4⟩ := id tk0
  obtain ⟨hB, hB2, hB3⟩ := pOk.bd G.1 P0.2.1 P0.2.2.1 P0.2.2.2.1
  have hj48 : j < 48 := by have : pGs (xC X) (tP T) ≤ 48 := hB.2.1; omega
  obtain ⟨p', p1, t1, -⟩ := R.at ha2 hT
  rw [hp] at p1
  cases p1
  refine B_X8_bridgeComesRound_0 _ _ _ ?_
  rw [n_neg (by omega), n_lit 48, n_lt (by omega) (by decide), n_cl (by omega)]
  refine ⟨fun z => z.elim, fun _ => ⟨fun _ => ⟨t1, n_in hj48 (by decide), n_in hj48 (by decide), ?_⟩, fun z => absurd hj48 z⟩⟩
  have R1 := R.tfail (k := j) ha2 hT hp
  have G1 : xGood N H (xMod X a (tFail j)) := G.mod hR (fun T' h => G.2.2.2.2.1 a T' h)
  have hT1 : xT (xMod X a (tFail j)) a = some (tFail j (tBegun T)) := xMod_same hT
  have hp1 : yQ (yuA w (p + 6) j (yA w (p + 6) j + 1)) 1023 a = some p := hp
  generalize yuA w (p + 6) j (yA w (p + 6) j + 1) = w4 at R1 hp1
  obtain ⟨p', p1, t1, c1, c2⟩ := R1.at ha2 hT1
  rw [hp1] at p1
  cases p1
  obtain ⟨e1, e2, e3, e4, e5, e6, e7, e8⟩ := c1
  obtain ⟨f1, f2, f3⟩ := e6 j hj
  have f3 : yA w4 (p + 8) j = vov (tBr T j) := f3
  have hth : yI w4 1000 0 = Int32.ofNat th := R1.1.2.2.2.2.2.2.2.2.2.2.2.2.2.2.2.2.2.2.2.2.1
  unfold xFailed at k0 k1
  refine B_X5_bridgeOf_0 _ _ ?_
  rw [n_neg (by omega), n_lit 48, n_lt (by omega) (by decide), n_cl (by omega)]
  refine ⟨fun z => z.elim, fun _ => ⟨fun _ => ⟨t1, n_in hj48 (by decide), ?_⟩, fun z => absurd hj48 z⟩⟩
  rw [f3]
  refine B_X5_bridgeOf_20 _ _ _ ?_
  cases hb : tBr T j with
  | none =>
    rw [hb] at k0
    dsimp only at k0
    refine ⟨fun _ => ?_, fun z => absurd (show (-1 : Int32) < 0 by decide) z⟩
    refine ⟨fun _ => ⟨t1, ?_⟩, fun q hq => (by cases hq)⟩
    refine B_X5_wantsBridge_0 _ _ _ ?_
    rw [n_neg (by omega), n_lit 48, n_lt (by omega) (by decide), n_cl (by omega), f1, f2, hth, e2, n_lit 4, n_lt (show tNb (tFail j (tBegun T)) < 2147483648 by omega) (by decide)]
    have ef : tFl (tFail j (tBegun T)) j = tFl T j + 1 := upd_same _ _ _
    rw [ef, show tCt (tFail j (tBegun T)) j = tCt T j from rfl, show tNb (tFail j (tBegun T)) = tNb T from rfl]
    have no : tWants th j T = false → F 0 w4 := by
      intro z
      rw [if_neg (by rw [z]; decide)] at k0
      exact k0 rfl _ R1
    refine ⟨fun z => z.elim, fun _ => ⟨fun _ => ⟨t1, n_in hj48 (by decide), fun c => ?_, fun c => ⟨n_in hj48 (by decide), fun c3 => ⟨fun c4 => ?_, fun c4 => ?_⟩, fun c3 => ?_⟩⟩, fun z => absurd hj48 z⟩⟩
    · refine ⟨fun _ => no ?_, fun z => absurd rfl z⟩
      unfold tWants
      rw [decide_eq_true c]
      rfl
    · refine ⟨fun z => absurd z (by decide), fun _ => ⟨t1, ?_⟩⟩
      rw [e1]
      have hw : tWants th j T = true := by
        unfold tWants
        rw [decide_eq_false c, decide_eq_true c3, decide_eq_true c4]
        rfl
      rw [if_pos hw] at k0
      exact c8_beginRecording R1 rfl ha2 (fun k z => by cases z; exact hj48) (k0 rfl)
    · refine ⟨fun _ => no ?_, fun z => absurd rfl z⟩
      unfold tWants
      rw [decide_eq_false c4, Bool.and_false]
    · refine ⟨fun _ => no ?_, fun z => absurd rfl z⟩
      unfold tWants
      rw [decide_eq_false c3, Bool.and_false, Bool.false_and]
  | some b =>
    rw [hb] at k0 k1
    dsimp only at k0 k1
    obtain ⟨b1, b2⟩ := tk4 j b hj hb
    have b1 : b < tNb T := b1
    have b4 : tNb T ≤ 4 := tk2
    have P : pOk (xC X) H (tBp T b) := tk3 b b1
    have hpj : xPc (xMod X a (tFail j)) = pAd (tBp T b) 0 := hpc.trans b2.symm
    rw [show vov (some b) = Int32.ofNat b from rfl, n_neg (by omega), n_lit 4, n_lt (by omega) (by decide), n_cl (by omega)]
    refine ⟨fun z => z.elim, fun _ => ⟨fun _ => ⟨t1, n_in (by omega) (by decide), fun o ho => ?_⟩, fun z => absurd (by omega) z⟩⟩
    obtain ⟨q, q1, q2⟩ := e8 b b1
    rw [q1] at ho
    subst ho
    refine ⟨fun z => (by cases z), fun q' hq' => ?_⟩
    cases hq'
    have q2 : pHc (xC X) (yI w4) (yA w4) q (tBp T b) := q2
    have yPq := (c2 b q (by omega) q1).1
    refine ⟨yPq, ?_⟩
    have hp48 : pLn (tBp T b) ≤ 48 := P.2.1
    have hst : yL w4 1007 8 = Int64.ofNat N := R1.1.2.2.2.1.trans G.2.1
    rw [q2.1, hst, l_sub, i_l (by omega), cmp_pos (by omega) (by omega)]
    refine ⟨fun c => ?_, fun c => ?_⟩
    · rw [if_neg (by omega)] at k0
      exact k0 rfl _ R1
    · rw [if_pos (by omega)] at k0 k1
      refine c1_folw (p := tBp T b) R1 G1 P hpj yPq q2 (by omega) ?_
      have R2 := (R1.mach (afol (xC X) (pGo (tBp T b)) (pLn (tBp T b)) 0 (xA X)).2).n0 (Int32.ofNat (xHow (xMod X a (tFail j)) (tBp T b))).toInt64
      have R2 : RC e u th _ (xFol (xMod X a (tFail j)) (tBp T b)) := R2
      have hle := (fol_run (X := xMod X a (tFail j)) (p := tBp T b)).1
      have e4 : yI (putm w4 (afol (xC (xMod X a (tFail j))) (pGo (tBp T b)) (pLn (tBp T b)) 0 (xA (xMod X a (tFail j)))).2) q 4 = Int32.ofNat (pLn (tBp T b)) := by
        rw [(dyn_putm w4 _).1 q yPq.1]
        exact q2.1
      refine ⟨yP_of (w := w4) rfl rfl yPq, ?_⟩
      rw [e4, n_eq (by omega) (by omega)]
      refine ⟨fun c5 => ?_, fun c5 => ?_⟩
      · rw [if_pos c5] at k1
        refine k1 _ _ rfl ⟨_, hT1⟩ _ R2 ?_
        exact hp1
      · rw [if_neg c5] at k0
        exact k0 rfl _ R2
end PSC
