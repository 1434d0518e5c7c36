/-! the class ends a recording -/
def RCo (e : zm) (u : Nat × Nat) (th : Nat) (w : zm) (X : xs) : Prop := RCa th w X ∧ RCt u w X ∧ kp e w
section ENDR
variable {d : Nat} {e w : zm} {u : Nat × Nat} {th : Nat} {X : xs} {N : Nat} {H : Nat → Option Nat}
theorem RCa.fix {w' : zm} {X' : xs} (R : RCa th w X) (D : fixd w w') (hX : ∃ f g, X' = (xM X, xC X, xF X, xSt X, xA X, xHe X, xCu X, xN X, g, f)) : RCa th w' X' := by
  obtain ⟨d1, d2, d3, d4, d5⟩ := D
  obtain ⟨f, g, hf⟩ := hX
  subst hf
  obtain ⟨a1, a2, a3, a4, a5, a6, a7, a8, a9, a10, a11, a12, a13, a14, a15, a16, a17, a18, a19, a20, a21, a22, a23⟩ := R
  have t : yTop = 1077 := rfl
  refine ⟨?_, ?_, ?_, ?_, ?_, ?_, ?_, ?_, a9, ?_, ?_, ?_, ?_, ?_, ?_, ?_, ?_, ?_, ?_, ?_, ?_, ?_, ?_⟩
  · rw [d1 1007 (by omega) (by decide)]; exact a1
  · rw [d1 1009 (by omega) (by decide)]; exact a2
  · rw [d1 1007 (by omega) (by decide)]; exact a3
  · rw [d2 1007 (by omega)]; exact a4
  · rw [d3 1010 (by omega)]; exact a5
  · rw [d3 1008 (by omega)]; exact a6
  · rw [d3 1011 (by omega)]; exact a7
  · rw [d3 1012 (by omega)]; exact a8
  · rw [d1 1003 (by omega) (by decide)]; exact a10
  · rw [d3 1004 (by omega)]; exact a11
  · rw [d1 1003 (by omega) (by decide)]; exact a12
  · rw [d1 1007 (by omega) (by decide)]; exact a13
  · rw [d3 1001 (by omega)]; exact a14
  · rw [d3 1002 (by omega)]; exact a15
  · rw [d2 1000 (by omega)]; exact a16
  · rw [d2 1000 (by omega)]; exact a17
  · rw [d2 1000 (by omega)]; exact a18
  · rw [d2 1000 (by omega)]; exact a19
  · rw [d2 1000 (by omega)]; exact a20
  · rw [d1 1000 (by omega) (by decide)]; exact a21
  · rw [d3 1 (by omega), d3 2 (by omega)]; exact a22
  · rw [d3 1018 (by omega)]; exact a23
theorem kp.fix {w' : zm} (K : kp e w) (D : fixd w w') : kp e w' := by
  obtain ⟨d1, d2, d3, d4, d5⟩ := D
  obtain ⟨k1, k2, k3, k4, k5, k6⟩ := K
  have t : yTop = 1077 := rfl
  refine ⟨(d1 1031 (by omega) (by decide)).trans k1, (d2 1031 (by omega)).trans k2, fun q hq => ?_, (d3 0 (by omega)).trans k4, d5.trans k5, d4.trans k6⟩
  refine (d3 q ?_).trans (k3 q hq)
  by_cases c : q < yTop
  · exact c
  · have := yrM_hi (q := q) (by omega)
    rw [this] at hq
    cases hq
theorem RCo.fix {w' : zm} {X' : xs} (R : RCo e u th w X) (D : fixd w w') (hT : RCt u w' X') (hX : ∃ f g, X' = (xM X, xC X, xF X, xSt X, xA X, xHe X, xCu X, xN X, g, f)) : RCo e u th w' X' := ⟨R.1.fix D hX, hT, R.2.2.fix D⟩
theorem RCo.drop (R : RCo e u th w X) : RC e u th (yuI (yuI w 1025 1 (-1)) 1025 2 (-1)) (xsR X none) := by
  obtain ⟨⟨a1, a2, a3, a4, a5, a6, a7, a8, a9, a10, a11, a12, a13, a14, a15, a16, a17, a18, a19, a20, a21, a22, a23⟩, r3, r4⟩ := R
  exact ⟨⟨a1, a2, a3, a4, a5, a6, a7, a8, a9, a10, a11, a12, a13, a14, a15, a16, a17, a18, a19, a20, a21, a22, a23⟩, ⟨rfl, rfl⟩, r3.dyn ((dyn_I w 1 _ rfl (by decide)).trans (dyn_I _ 2 _ rfl (by decide))) rfl rfl, (r4.I 1 _ (by decide)).I 2 _ (by decide)⟩
theorem ext.fixd {w' : zm} (E : ext w w') (h : yTop ≤ ySz w) : fixd w w' := by
  have t : yTop = 1077 := rfl
  exact ⟨fun q a _ => (E q (by omega)).1, fun q a => (E q (by omega)).2.2.2.2.2.1, fun q a => (E q (by omega)).2.1, (E 1076 (by omega)).2.2.2.2.2.2, (E 0 (by omega)).2.2.2.1⟩
theorem cpd.fixd {w' : zm} {q : Nat} (C : cpd w w' q) (h : yTop ≤ q) : fixd w w' := by
  obtain ⟨c1, c2, c3, c4, c5, c6, c7, c8, c9, c10, c11, c12, c13⟩ := C
  exact ⟨fun r a _ => (c1 r (by omega)).1, fun r a => by rw [c10], fun r a => (c1 r (by omega)).2, by rw [c11], by rw [c8]⟩
/-- what a path is: bounds -/
def pBd (cd : Nat → Int32) (P : pth) : Prop := pLn P ≤ 48 ∧ pGs cd P ≤ 48 ∧ ∀ k, k < pGs cd P → pGa cd P k < 48
theorem c5_begin {F : zm → Prop} {p a : Nat} {cd : Nat → Int32} {P : pth} (hT : yT w p) (hP : pHc cd (yI w) (yA w) 1026 P) (hB : pBd cd P) (k : ∀ w', frm w w' p → fixd w w' → tHc cd (yI w') (yA w') (yQ w') p a (tNew P) → F w') : zGo (d + 1) m_X5_begin 0 [.ref p, .int (Int32.ofNat a), .ref 1026] [] (yz w) (zKv F) := by
  have hp0 : 1077 ≤ p := hT.1
  have ht : yTop = 1077 := rfl
  refine B_X5_begin_0 _ _ ⟨hT, ?_⟩
  refine c2_copy (w := yuI w p 5 (Int32.ofNat a)) (yP_of (w := w) rfl rfl (yT_P hT)) (fun w2 C => ?_)
  have hP1 : pHc cd (yI (yuI w p 5 (Int32.ofNat a))) (yA (yuI w p 5 (Int32.ofNat a))) 1026 P := pHc_fr hP (y2_row _ _ (by omega)) rfl rfl rfl
  have hP2 := C.path hP1 hB.1 hB.2.1 hB.2.2
  have CF := C.fixd (by omega)
  obtain ⟨c1, c2, c3, c4, c5, c6, c7, c8, c9, c10, c11, c12, c13⟩ := C
  have hT2 : yT w2 p := yT_of (w := w) c8 c9 hT
  refine ⟨hT2, c7_fill 0 (yT_k1 hT2) (yT_b1 hT2) (by decide) ⟨hT2, c7_fill 0 (yT_k2 hT2) (yT_b2 hT2) (by decide) ⟨hT2, c7_fill (-1) (yT_k3 hT2) (yT_b3 hT2) (by decide) ⟨hT2, k _ ?_ ?_ ?_⟩⟩⟩⟩
  · refine ⟨fun q hq hd => ⟨?_, ?_⟩, ?_, ?_, ?_, ?_, ?_, ?_⟩
    · rw [uI_I, uI_I, uI_I, uR_I, uR_I, uR_I, y2_row _ _ (by omega), y2_row _ _ (by omega), y2_row _ _ (by omega), (c1 q (by omega)).1, uI_I, y2_row _ _ (by omega)]
    · rw [uI_A, uI_A, uI_A, uR_A, uR_A, uR_A, y1_ne _ _ (by omega), y1_ne _ _ (by omega), y1_ne _ _ (by omega), (c1 q (by omega)).2, uI_A]
    · rw [uI_I, uI_I, uI_I, uR_I, uR_I, uR_I, y2_row _ _ (by omega), y2_row _ _ (by omega), y2_row _ _ (by omega), (c1 1022 (by omega)).1, uI_I, y2_row _ _ (by omega)]
    · rw [uI_Q, uI_Q, uI_Q, uR_Q, uR_Q, uR_Q, c7, uI_Q]
    · rw [uI_K, uI_K, uI_K, uR_K, uR_K, uR_K, c8, uI_K]
    · rw [uI_F, uI_F, uI_F, uR_F, uR_F, uR_F, c9, uI_F]
    · rw [uI_Sz, uI_Sz, uI_Sz, uR_Sz, uR_Sz, uR_Sz, c12, uI_Sz]
    · rw [uI_Sl, uI_Sl, uI_Sl, uR_Sl, uR_Sl, uR_Sl, c13, uI_Sl]
  · exact ((fixd_I w 5 _ (Or.inl hT.1)).trans CF).trans ((((((fixd_R w2 _ (by omega)).trans (fixd_R _ _ (by omega))).trans (fixd_R _ _ (by omega))).trans (fixd_I _ _ _ (Or.inl hT.1))).trans (fixd_I _ _ _ (Or.inl hT.1))).trans (fixd_I _ _ _ (Or.inl hT.1)))
  · refine ⟨?_, ?_, ?_, ?_, ?_, fun j hj => ⟨?_, ?_, ?_⟩, Nat.zero_le _, fun j hj => absurd hj (Nat.not_lt_zero j)⟩
    · rw [uI_I, uI_I, uI_I, uR_I, uR_I, uR_I, y2_ne _ _ (Or.inr (by decide)), y2_ne _ _ (Or.inr (by decide)), y2_ne _ _ (Or.inr (by decide)), (c1 p (by omega)).1, uI_I, y2_same]
    · rw [uI_I, uI_I, uI_I, y2_ne _ _ (Or.inr (by decide)), y2_ne _ _ (Or.inr (by decide)), y2_same]
      rfl
    · rw [uI_I, uI_I, y2_ne _ _ (Or.inr (by decide)), y2_same]
      rfl
    · rw [uI_I, y2_same]
      rfl
    · refine pHc_fr hP2 ?_ ?_ ?_ ?_
      · rw [uI_I, uI_I, uI_I, uR_I, uR_I, uR_I, y2_row _ _ (by omega), y2_row _ _ (by omega), y2_row _ _ (by omega)]
      · rw [uI_A, uI_A, uI_A, uR_A, uR_A, uR_A, y1_ne _ _ (by omega), y1_ne _ _ (by omega), y1_ne _ _ (by omega)]
      · rw [uI_A, uI_A, uI_A, uR_A, uR_A, uR_A, y1_ne _ _ (by omega), y1_ne _ _ (by omega), y1_ne _ _ (by omega)]
      · rw [uI_A, uI_A, uI_A, uR_A, uR_A, uR_A, y1_ne _ _ (by omega), y1_ne _ _ (by omega), y1_ne _ _ (by omega)]
    · have hj : j < pGs cd P := hj
      have := hB.2.1
      rw [uI_A, uI_A, uI_A, uR_A, uR_A, uR_A, y1_ne _ _ (by omega), y1_ne _ _ (by omega), y1_same, if_pos (by omega)]
      rfl
    · have hj : j < pGs cd P := hj
      have := hB.2.1
      rw [uI_A, uI_A, uI_A, uR_A, uR_A, uR_A, y1_ne _ _ (by omega), y1_same, if_pos (by omega)]
      rfl
    · have hj : j < pGs cd P := hj
      have := hB.2.1
      rw [uI_A, uI_A, uI_A, uR_A, y1_same, if_pos (by omega)]
      rfl
theorem c6_add {F : zm → Prop} (R : RCo e u th w X) {a : Nat} {P : pth} (ha : a < 200) (hT : xT X a = none) (hm : xMany X < 16) (hP : pHc (xC X) (yI w) (yA w) 1026 P) (hB : pBd (xC X) P) (k : ∀ w', RCo e u th w' (xsT X a (some (tNew P))) → F w') : zGo (d + 2) m_X6_add 0 [.ref 1022, .int (Int32.ofNat a), .ref 1026, zJ] [] (yz w) (zKv F) := by
  have ht : yTop = 1077 := rfl
  have go47 : ∀ w' p, fixd w w' → RCx u w' X p → zGo (d + 2) m_X6_add 47 [.ref 1022, .int (Int32.ofNat a), .ref 1026, .ref p] [] (yz w') (zKv F) := by
    intro w' p D Rx
    have hTp := Rx.T
    have hp0 : 1077 ≤ p := hTp.1
    have hP' : pHc (xC X) (yI w') (yA w') 1026 P := pHc_fr hP (D.1 1026 (by omega) (by decide)) (D.2.2.1 1028 (by omega)) (D.2.2.1 1029 (by omega)) (D.2.2.1 1030 (by omega))
    refine B_X6_add_47 _ _ ⟨hTp, c5_begin (a := a) hTp hP' hB (fun w2 D2 D3 h2 => ?_)⟩
    have Rx2 := Rx.frm D2
    refine ⟨n_in ha (by decide), Rx2.T, ?_⟩
    rw [n_cl (by omega)]
    refine k _ ?_
    exact R.fix ((D.trans D3).trans ((fixd_Q w2 _ _ _).trans (fixd_I _ _ _ (Or.inr rfl)))) (Rx2.put ha hT h2) ⟨_, _, rfl⟩
  obtain ⟨nT, tp, loc, sc, O, r2, r3, r4, r5, r6, r7⟩ := R.2.1
  have hsc : sc ≤ 16 := by have := O.1; omega
  have o8 : yI w 1022 2 = Int32.ofNat sc := O.2.2.2.2.2.2.2.1
  refine B_X6_add_0 _ ?_
  rw [n_neg (by omega), n_lit 200, n_lt (by omega) (by decide), n_cl (by omega), r4 a ha hT, r2, n_lit 16, n_lt (by omega) (by decide)]
  refine ⟨fun z => z.elim, fun _ => ⟨fun _ => ⟨n_in ha (by decide), fun o ho => ?_⟩, fun z => absurd ha z⟩⟩
  subst ho
  refine ⟨fun _ => ⟨fun _ => ?_, fun z => absurd hm z⟩, fun q hq => (by cases hq)⟩
  refine B_X6_spare_0 ?_
  rw [o8, show ((0 : Int32) < Int32.ofNat sc) = (0 < sc) from n_lt (a := 0) (by decide) (by omega), n_lit 16, n_lt (by decide) (by omega)]
  refine ⟨fun hs => ⟨fun z => absurd z (by omega), fun _ => ?_⟩, fun hs => ?_⟩
  · rw [show (Int32.ofNat sc - 1 : Int32) = Int32.ofNat (sc - 1) from n_sub (a := sc) (b := 1) hs, n_cl (by omega)]
    obtain ⟨p, p1, Rx⟩ := RCx.spare O hs r2 r3 r4 r5 r6 r7
    rw [p1]
    refine ⟨n_in (by omega) (by decide), fun o ho => ?_⟩
    subst ho
    refine ⟨fun z => (by cases z), fun q hq => ?_⟩
    cases hq
    exact go47 _ p (fixd_I w _ _ (Or.inr rfl)) Rx
  · have hs : sc = 0 := by omega
    subst hs
    have hz : 1077 ≤ ySz w := O.2.1
    refine ⟨fun _ => ⟨yfix_hi hz, ?_⟩, fun q hq => (by cases hq)⟩
    refine c5_init O.2.1 (fun w' E s1 s2 hT' hQ' => ?_)
    exact go47 w' _ (E.fixd O.2.1) (RCx.new O hm r2 r3 r4 r5 r6 r7 E s1 s2 hT' hQ')
theorem c5_addBridge {F : zm → Prop} (R : RCo e u th w X) {a p j : Nat} {T : tr} {P : pth} (ha : a < 200) (hT : xT X a = some T) (hp : yQ w 1023 a = some p) (hn : tNb T < 4) (hj : j < 48) (hP : pHc (xC X) (yI w) (yA w) 1026 P) (hB : pBd (xC X) P) (k : ∀ w', RCo e u th w' (xMod X a (tBridge j P)) → F w') : zGo (d + 1) m_X5_addBridge 0 [.ref p, .int (Int32.ofNat j), .ref 1026, zJ] [] (yz w) (zKv F) := by
  have ht : yTop = 1077 := rfl
  have go58 : ∀ w' q, RCo e u th w' X → fixd w w' → yQ w' 1023 a = some p → yQ w' (p + 9) (tNb T) = some q → zGo (d + 1) m_X5_addBridge 58 [.ref p, .int (Int32.ofNat j), .ref 1026, .ref q] [] (yz w') (zKv F) := by
    intro w' q R' D hp' hq'
    have hP' : pHc (xC X) (yI w') (yA w') 1026 P := pHc_fr hP (D.1 1026 (by omega) (by decide)) (D.2.2.1 1028 (by omega)) (D.2.2.1 1029 (by omega)) (D.2.2.1 1030 (by omega))
    obtain ⟨nT, tp, loc, sc, O, r2, r3, r4, r5, -⟩ := id R'.2.1
    obtain ⟨t1, t2, i, i1, i2, i3⟩ := O.T ha hp'
    obtain ⟨p', q1, e1, e2, -⟩ := r5 a T ha hT
    rw [hp'] at q1
    cases q1
    obtain ⟨o1, o2, o3⟩ := O.2.2.2.2.1 i (tNb T) q i1 hn (by rw [i2]; exact hq')
    have hs := sTP t1 o1 (by rw [← i2]; exact o3 i i1)
    have hp0 := t1.1
    have hq0 := o1.1
    refine B_X5_addBridge_58 _ _ _ ⟨o1, c2_copy o1 (fun w2 C => ⟨yT_of (w := w') C.2.2.2.2.2.2.2.1 C.2.2.2.2.2.2.2.2.1 t1, n_in hj (by decide), ?_⟩)⟩
    rw [(C.1 p (by omega)).1, e2, n_cl (by omega), show (Int32.ofNat (tNb T) + 1 : Int32) = Int32.ofNat (tNb T + 1) from n_add _ 1]
    exact k _ (R'.fix ((C.fixd hq0).trans ((fixd_A w2 _ _ (by omega)).trans (fixd_I _ _ _ (Or.inl hp0)))) (R'.2.1.bridge ha hT hp' hn hq' C (C.path hP' hB.1 hB.2.1 hB.2.2)) ⟨_, _, rfl⟩)
  obtain ⟨nT, tp, loc, sc, O, r2, r3, r4, r5, -⟩ := id R.2.1
  obtain ⟨t1, t2, i, i1, i2, i3⟩ := O.T ha hp
  obtain ⟨p', q1, e1, e2, -⟩ := r5 a T ha hT
  rw [hp] at q1
  cases q1
  have hp0 := t1.1
  refine B_X5_addBridge_0 _ _ ?_
  rw [n_neg (by omega), n_lit 48, n_lt (by omega) (by decide), e2, n_neg (by omega), n_lit 4, n_lt (by omega) (by decide), n_cl (by omega)]
  refine ⟨fun z => z.elim, fun _ => ⟨fun _ => ⟨t1, fun z => z.elim, fun _ => ⟨fun _ => ⟨n_in hn (by decide), fun o ho => ?_⟩, fun z => absurd hn z⟩⟩, fun z => absurd hj z⟩⟩
  refine ⟨fun hz => ?_, fun q hq => ?_⟩
  · rw [hz] at ho
    have hz1 : 1077 ≤ ySz w := O.2.1
    refine ⟨yfix_hi hz1, c2_init O.2.1 (fun w6 E s1 s2 hP6 => ?_)⟩
    obtain ⟨R1, R2, R3, R4⟩ := R.2.1.newB ha hT hp hn ho E s1 s2 hP6
    have e6 : yI w6 p 6 = Int32.ofNat (tNb T) := by
      rw [(E p (by omega)).1]
      exact e2
    rw [e6, n_cl (by omega)]
    refine ⟨E.T t1 t2, n_in hn (by decide), hP6, ?_⟩
    have D := (E.fixd O.2.1).trans (fixd_Q w6 (p + 9) (tNb T) (some (ySz w)))
    exact go58 _ _ (R.fix D R1 ⟨_, _, rfl⟩) D R3 R4
  · rw [hq] at ho
    exact go58 w q R (fixd.rf w) hp ho
end ENDR
