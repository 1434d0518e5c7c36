/-! the model's pass is the pure one -/
section PSN
variable {d : Nat} {c : zm} {s : ms} {th : Nat} {pn : Int32} {X : xs} {sl : Nat → Option Nat} {N : Nat} {H : Nat → Option Nat}
/-- the guard k has failed -/
theorem c9_failed {F : Int32 → zm → Prop} (R : RMs th pn s X sl) (G : xGood N H X) (hR : xR X = none) {a left how k t : Nat} {T : tr} (ht : t < 16) (hs : sl t = some a) (hT : xT X a = some (tBegun T)) (ha : a < 200) (hk : k < pGs (xC X) (tP T)) (hpc : xPc X = pAd (tP T) (pGa (xC X) (tP T) k)) (hf : pGa (xC X) (tP T) k = how) (hN : N + 48 < 2000000000) (hl : how ≤ left) (h100 : left ≤ 100000)
    (kk : ∀ s', RM th (pnb (xFailed th X a (left - how) k T).2.2) s' (xFailed th X a (left - how) k T).1 → F (Int32.ofNat (how + (xFailed th X a (left - how) k T).2.1)) (put c s')) :
    zGo (d + 4) m_X9_pass 68 [.ref 1031, .int (Int32.ofNat t), .int (Int32.ofNat left), .int (Int32.ofNat how), .int 0, .int (Int32.ofNat k), zJ, zJ, zJ] [] (yz (put c s)) (zKi F) := by
  have tk0 := G.2.2.2.2.1 _ _ hT
  obtain ⟨P0, tk1, tk2, tk3, tk4⟩ := id tk0
  have h0 := R.hm ht hs hT
  obtain ⟨h1, h2, h3, h4, h5, h6, h7, h8, h9, h10, h11, h12, h13, h14⟩ := id h0
  have h13 : pGs (xC X) (tP T) ≤ 48 := h13
  have h12 : pLn (tP T) ≤ 48 := h12
  obtain ⟨hB, hB2, hB3⟩ := pOk.bd G.1 P0.2.1 P0.2.2.1 P0.2.2.2.1
  obtain ⟨q1, q2, q3, q4⟩ := h9 k hk
  have hhow : how < 48 := by have : pGa (xC X) (tP T) k < 48 := hB.2.2 k hk; omega
  have R1 := R.mod (p0 := 1050) (i0 := t * 48 + k) (v := sA s 1050 (t * 48 + k) + 1) (tFail k) ht hs hT (by decide) (slo48 (by decide) (by omega)) (tHm_fail h0 hk)
  have G1 : xGood N H (xMod X a (tFail k)) := G.mod hR (fun T' h => G.2.2.2.2.1 a T' h)
  have hT1 : xT (xMod X a (tFail k)) a = some (tFail k (tBegun T)) := xMod_same hT
  have g49 : yA (put c s) 1049 (t * 48 + k) = Int32.ofNat how := q1.trans (congrArg Int32.ofNat hf)
  have g52 : yA (put c s) 1052 (t * 48 + k) = gbo t (tBr T k) := q4
  refine B_X9_pass_68 _ _ _ _ _ ?_
  rw [n_48, n_cl (by omega), g49, g52, show yA (put c s) 1050 = sA s 1050 from rfl]
  have hz : zin (Int32.ofNat (t * 48 + k)) 768 := n_in (by omega) (by decide)
  refine ⟨hz, fun _ => ⟨hz, hz, hz, ?_⟩, fun z => absurd rfl z⟩
  rw [p_A _ _ _ _ _ rfl]
  unfold xFailed at kk
  cases hb : tBr T k with
  | none =>
    rw [hb] at kk
    dsimp only at kk
    refine ⟨fun _ => ?_, fun z => absurd (show (-1 : Int32) < 0 by decide) z⟩
    generalize tA s 1050 (upd (sA s 1050) (t * 48 + k) (sA s 1050 (t * 48 + k) + 1)) = s1 at R1
    have m0 := R1.hm ht hs hT1
    have g50 : yA (put c s1) 1050 (t * 48 + k) = tFl T k + 1 := ((m0.2.2.2.2.2.2.2.2.1 k hk).2.1).trans (upd_same _ _ _)
    have g51 : yA (put c s1) 1051 (t * 48 + k) = tCt T k := (m0.2.2.2.2.2.2.2.2.1 k hk).2.2.1
    have g48 : yA (put c s1) 1048 t = Int32.ofNat (tNb T) := m0.2.2.2.2.2.2.1
    have e0 : yI (put c s1) 1031 0 = Int32.ofNat th := R1.1.2.2.2.2.2.2.2.2.2.2.2.2.2.2.2.2.2.2.2.2.1
    have g39 : yA (put c s1) 1039 t = Int32.ofNat a := (R1.2.2.1 t ht).trans (by rw [hs]; rfl)
    have no : tWants th k T = false → zGo (d + 4) m_X9_pass 243 [.ref 1031, .int (Int32.ofNat t), .int (Int32.ofNat left), .int (Int32.ofNat how), .int 0, .int (Int32.ofNat k), .int (Int32.ofNat (t * 48 + k)), .int (gbo t none), zJ] [] (yz (put c s1)) (zKi F) := by
      intro z
      rw [if_neg (show ¬ tWants th k T = true by rw [z]; decide)] at kk
      exact c9_left rfl rfl rfl rfl R1 kk
    have hnb : tNb T ≤ 4 := tk2
    refine B_X9_pass_190 _ _ _ _ _ _ _ ⟨fun _ => ⟨hz, ?_⟩, fun z => absurd (show (-1 : Int32) < 0 by decide) z⟩
    rw [n_cl (by omega), g50, g51, e0, n_cl (by omega), g48, n_lit 4, n_lt (by omega) (by decide)]
    refine ⟨fun c1 => no ?_, fun c1 => ⟨hz, fun c3 => ⟨n_in ht (by decide), fun c4 => ⟨n_in ht (by decide), ?_⟩, fun c4 => no ?_⟩, fun c3 => no ?_⟩⟩
    · unfold tWants
      rw [decide_eq_true c1]
      rfl
    · have hw : tWants th k T = true := by
        unfold tWants
        rw [decide_eq_false c1, decide_eq_true c3, decide_eq_true c4]
        rfl
      rw [if_pos hw] at kk
      rw [g39]
      refine c9_begin (gd := some k) R1.1 R1.2.2 ha ⟨by omega, t, ht, hs, rfl, rfl⟩ (fun s' b1 b2 b3 => ?_)
      exact c9_left rfl rfl rfl rfl (sl := sl) ⟨b1, b2, b3⟩ kk
    · unfold tWants
      rw [decide_eq_false c4, Bool.and_false]
    · unfold tWants
      rw [decide_eq_false c3, Bool.and_false, Bool.false_and]
  | some j =>
    rw [hb] at kk
    dsimp only at kk
    obtain ⟨b1, b2⟩ := tk4 k j hk hb
    have b1 : j < tNb T := b1
    have b4 : tNb T ≤ 4 := tk2
    have P : pOk (xC X) H (tBp T j) := tk3 j b1
    have hpj : xPc (xMod X a (tFail k)) = pAd (tBp T j) 0 := hpc.trans b2.symm
    have hp48 : pLn (tBp T j) ≤ 48 := P.2.1
    obtain ⟨y1, y2, y3, y4, y5⟩ := h11 j b1
    have g53 : yA (put c s) 1053 (t * 4 + j) = Int32.ofNat (pLn (tBp T j)) := y1
    rw [show gbo t (some j) = Int32.ofNat (t * 4 + j) from rfl, n_neg (by omega), n_cl (by omega), g53, n_sub hl, n_lt (by omega) (by omega), n_480]
    have hz4 : zin (Int32.ofNat (t * 4 + j)) 64 := n_in (by omega) (by decide)
    refine ⟨fun z => z.elim, fun _ => ⟨hz4, fun c5 => ?_, fun c5 => ⟨hz4, ?_⟩⟩⟩
    · rw [if_neg (show ¬ pLn (tBp T j) ≤ left - how by omega)] at kk
      refine B_X9_pass_190 _ _ _ _ _ _ _ ⟨fun z => ?_, fun _ => c9_left rfl rfl rfl rfl R1 kk⟩
      rw [n_neg (by omega)] at z
      exact z.elim
    · rw [if_pos (show pLn (tBp T j) ≤ left - how by omega)] at kk
      have hg : ∀ i, i < pLn (tBp T j) → sA (tA s 1050 (upd (sA s 1050) (t * 48 + k) (sA s 1050 (t * 48 + k) + 1))) 1055 ((t * 4 + j) * 48 + i) = pGo (tBp T j) i := y5
      have e53 : sA (tA s 1050 (upd (sA s 1050) (t * 48 + k) (sA s 1050 (t * 48 + k) + 1))) 1053 (t * 4 + j) = Int32.ofNat (pLn (tBp T j)) := y1
      refine c9_folb (p := tBp T j) R1 G1 (show t * 4 + j < 64 by omega) P hpj hg (by omega) (fun s2 R2 => ?_)
      have hT2 : xT (xFol (xMod X a (tFail k)) (tBp T j)) a = some (tFail k (tBegun T)) := hT1
      have hle := (fol_run (X := xMod X a (tFail k)) (p := tBp T j)).1
      have m2 := R2.hm ht hs hT2
      have g53' : yA (put c s2) 1053 (t * 4 + j) = Int32.ofNat (pLn (tBp T j)) := (m2.2.2.2.2.2.2.2.2.2.2.1 j b1).1
      rw [g53', n_eq (by omega) (by omega), n_add]
      refine ⟨hz4, fun c6 => ?_, fun c6 => ?_⟩
      · rw [if_pos c6] at kk
        exact c9_round rfl rfl rfl rfl R2 ht hs hT2 kk
      · rw [if_neg c6] at kk
        exact c9_left rfl rfl rfl rfl R2 kk
theorem c9_pass {F : Int32 → zm → Prop} (R : RMs th pn s X sl) (G : xGood N H X) (hR : xR X = none) {left t : Nat} {T : tr} (ht : t < 16) (hs : sl t = some (xPc X)) (hT : xT X (xPc X) = some T) (hl : pLn (tP T) ≤ left) (hN : N + left + 48 < 2000000000) (h100 : left ≤ 100000)
    (kk : ∀ s', RM th (pnb (xPass th left X T).2.2) s' (xPass th left X T).1 → F (Int32.ofNat (xPass th left X T).2.1) (put c s')) :
    zGo (d + 4) m_X9_pass 0 [.ref 1031, .int (Int32.ofNat t), .int (Int32.ofNat left), zJ, zJ, zJ, zJ, zJ, zJ] [] (yz (put c s)) (zKi F) := by
  have hpm := G.lt
  have hm := G.1.2.1
  obtain ⟨P, t2, t3, t4, t5⟩ := G.2.2.2.2.1 _ _ hT
  have h0 := R.hm ht hs hT
  have h12 : pLn (tP T) ≤ 48 := P.2.1
  have g40 : yA (put c s) 1040 t = Int32.ofNat (pLn (tP T)) := h0.1
  refine B_X9_pass_0 _ _ ?_
  have hz : zin (Int32.ofNat t) 16 := n_in ht (by decide)
  rw [n_cl (by omega), n_480, g40, show yL (put c s) 1031 15 = sL s 15 from rfl, show yA (put c s) 1046 = sA s 1046 from rfl, p_L, p_A _ _ _ _ _ rfl]
  refine ⟨hz, hz, hz, ?_⟩
  have R1 := R.n1 1
  have R2 := R1.mod (X := xsN X 1 1) (p0 := 1046) (i0 := t) tBegun ht hs hT (by decide) (slo1 (by decide)) (tHm_begun (R1.hm ht hs hT))
  rw [xPass0_sw] at R2
  have G0 := G.pass0 hR
  have hpc0 : xPc (xPass0 X) = pAd (tP T) 0 := t2.symm
  have hg : ∀ i, i < pLn (tP T) → sA (tA (tL s 15 (sL s 15 + 1)) 1046 (upd (sA s 1046) t (sA s 1046 t + 1))) 1042 (t * 48 + i) = pGo (tP T) i := fun i hi => (h0.2.2.2.2.2.2.2.1 i hi).2
  refine c9_folt (p := tP T) R2 G0 ht P hpc0 hg (by omega) (fun s3 R3 => ?_)
  have hT3 : xT (xFol (xPass0 X) (tP T)) (xPc X) = some (tBegun T) := xMod_same (X := X) hT
  have hle : xHow X (tP T) ≤ pLn (tP T) := (fol_run (X := xPass0 X) (p := tP T)).1
  have m3 := R3.hm ht hs hT3
  have g40' : yA (put c s3) 1040 t = Int32.ofNat (pLn (tP T)) := m3.1
  rw [xHow_0, g40', n_eq (by omega) (by omega)]
  unfold xPass at kk
  refine ⟨hz, fun c5 => ⟨fun z => absurd z (by decide), fun _ => ?_⟩, fun c5 => ⟨fun _ => ?_, fun z => absurd rfl z⟩⟩
  · rw [if_pos c5] at kk
    exact c9_round rfl rfl rfl rfl R3 ht hs hT3 kk
  · rw [if_neg c5] at kk
    have hn : xHow X (tP T) < pLn (tP T) := by omega
    obtain ⟨k1, k2⟩ := G.guard hT hn
    obtain ⟨F1, F2⟩ := G0.fol hR P hpc0
    rw [xHow_0] at F1 F2
    have hC : xC (xFol (xPass0 X) (tP T)) = xC X := rfl
    have hR2 : xR (xFol (xPass0 X) (tP T)) = xR X := rfl
    obtain ⟨hB, hB2, hB3⟩ := pOk.bd G.1 P.2.1 P.2.2.1 P.2.2.2.1
    have hgs : pGs (xC X) (tP T) ≤ 48 := hB.2.1
    -- the first guard at that step
    have first : ∀ q, q < gIx (pV (xC X) (tP T)) (xHow X (tP T)) → ¬ pGa (xC X) (tP T) q = xHow X (tP T) := by
      intro q hq
      unfold gIx at hq
      cases hv : vfind (fun k => decide (nGa (pV (xC X) (tP T)) k = xHow X (tP T))) (nGs (pV (xC X) (tP T))) 0 with
      | none =>
        rw [hv] at hq
        exact absurd hq (Nat.not_lt_zero q)
      | some k =>
        rw [hv] at hq
        obtain ⟨z1, z2, z3, z4⟩ := vfind_some hv
        have := z4 q (Nat.zero_le _) hq
        exact of_decide_eq_false this
    generalize gIx (pV (xC X) (tP T)) (xHow X (tP T)) = k at k1 k2 kk first
    have m9 := m3.2.2.2.2.2.2.2.2.1
    have loop : ∀ (j q : Nat), q + j = k → zGo (d + 4) m_X9_pass 68 [.ref 1031, .int (Int32.ofNat t), .int (Int32.ofNat left), .int (Int32.ofNat (xHow X (tP T))), .int 0, .int (Int32.ofNat q), zJ, zJ, zJ] [] (yz (put c s3)) (zKi F) := by
      intro j
      induction j with
      | zero =>
        intro q hq
        have hq : q = k := by omega
        subst hq
        rw [← hR2] at hR
        rw [← hC] at k1 k2
        exact c9_failed R3 F1 hR ht hs hT3 (by omega) k1 (by rw [F2, k2]) k2 (by omega) (by omega) h100 kk
      | succ j ih =>
        intro q hq
        refine B_X9_pass_68 _ _ _ _ _ ?_
        have g49 : yA (put c s3) 1049 (t * 48 + q) = Int32.ofNat (pGa (xC X) (tP T) q) := (m9 q (show q < pGs (xC X) (tP T) by omega)).1
        have hq48 : pGa (xC X) (tP T) q < 48 := hB.2.2 q (by omega)
        rw [n_48, n_cl (by omega), g49, n_eq (by omega) (by omega), show (Int32.ofNat q + 1 : Int32) = Int32.ofNat (q + 1) from n_add _ 1]
        exact ⟨n_in (by omega) (by decide), fun z => absurd z (first q (by omega)), fun _ => ih (q + 1) (by omega)⟩
    exact loop k 0 (by omega)
end PSN
