/-! a recorded path is copied into a bridge -/
theorem cN_flip {f g : Nat → Bool} {a : Nat} (h1 : f a = false) (h2 : g a = true) (h : ∀ i, i ≠ a → g i = f i) : ∀ n, a < n → cN g n = cN f n + 1 := by
  intro n
  induction n with
  | zero => intro z; omega
  | succ n ih =>
    intro hn
    unfold cN
    by_cases e : n = a
    · subst e
      rw [h1, h2, if_pos rfl, if_neg (by decide), cN_eq n (f := g) (g := f) (fun i hi => h i (by omega))]
    · rw [ih (by omega), h n e]
      omega
section SETS
variable (w : zm) (p b : Nat) (v : Int32) (f : Nat → Int32)
theorem uI_Sz : ySz (yuI w p b v) = ySz w := rfl
theorem uI_Sl : ySl (yuI w p b v) = ySl w := rfl
theorem uI_K : yK (yuI w p b v) = yK w := rfl
theorem uI_I : yI (yuI w p b v) = y2 (yI w) p b v := rfl
theorem uI_L : yL (yuI w p b v) = yL w := rfl
theorem uI_F : yF (yuI w p b v) = yF w := rfl
theorem uI_A : yA (yuI w p b v) = yA w := rfl
theorem uI_B : yB (yuI w p b v) = yB w := rfl
theorem uI_Q : yQ (yuI w p b v) = yQ w := rfl
theorem uR_Sz : ySz (yuR w p f) = ySz w := rfl
theorem uR_Sl : ySl (yuR w p f) = ySl w := rfl
theorem uR_K : yK (yuR w p f) = yK w := rfl
theorem uR_I : yI (yuR w p f) = yI w := rfl
theorem uR_L : yL (yuR w p f) = yL w := rfl
theorem uR_F : yF (yuR w p f) = yF w := rfl
theorem uR_A : yA (yuR w p f) = y1 (yA w) p f := rfl
theorem uR_B : yB (yuR w p f) = yB w := rfl
theorem uR_Q : yQ (yuR w p f) = yQ w := rfl
end SETS
def cpd (w w' : zm) (q : Nat) : Prop := (∀ p, (p < q ∨ q + 5 ≤ p) → yI w' p = yI w p ∧ yA w' p = yA w p) ∧ yI w' q 4 = yI w 1026 4 ∧ yI w' q 6 = yI w 1026 6 ∧ yI w' q 7 = yI w 1026 7 ∧ yI w' q 8 = yI w 1026 8 ∧
  (∀ i, i < 48 → yA w' (q + 2) i = yA w 1028 i ∧ yA w' (q + 3) i = yA w 1029 i ∧ yA w' (q + 4) i = yA w 1030 i) ∧ yQ w' = yQ w ∧ yK w' = yK w ∧ yF w' = yF w ∧ yL w' = yL w ∧ yB w' = yB w ∧ ySz w' = ySz w ∧ ySl w' = ySl w
theorem cpy48 {f g : Nat → Int32} {i : Nat} (h : i < 48) : va_cpy f g (Int32.toNatClampNeg 0) (Int32.toNatClampNeg 0) (Int32.toNatClampNeg 48) i = f i := by
  show va_cpy f g 0 0 48 i = f i
  unfold va_cpy
  rw [if_pos ⟨Nat.zero_le _, by omega⟩, Nat.zero_add, Nat.sub_zero]
theorem cpd_of {w : zm} {q : Nat} {g1 g2 g3 g4 : Nat → Int32} {v5 : Int32} (h2 : ∀ i, i < 48 → g2 i = yA w 1028 i) (h3 : ∀ i, i < 48 → g3 i = yA w 1029 i) (h4 : ∀ i, i < 48 → g4 i = yA w 1030 i) :
    cpd w (yuI (yuI (yuI (yuI (yuI (yuR (yuR (yuR (yuR w (q + 1) g1) (q + 2) g2) (q + 3) g3) (q + 4) g4) q 4 (yI w 1026 4)) q 5 v5) q 6 (yI w 1026 6)) q 7 (yI w 1026 7)) q 8 (yI w 1026 8)) q := by
  refine ⟨fun p hp => ⟨?_, ?_⟩, ?_, ?_, ?_, ?_, fun i hi => ⟨?_, ?_, ?_⟩, by simp only [uI_Q, uR_Q], by simp only [uI_K, uR_K], by simp only [uI_F, uR_F], by simp only [uI_L, uR_L], by simp only [uI_B, uR_B], by simp only [uI_Sz, uR_Sz], by simp only [uI_Sl, uR_Sl]⟩
  · show y2 (y2 (y2 (y2 (y2 (yI w) q 4 _) q 5 _) q 6 _) q 7 _) q 8 _ p = yI w p
    rw [y2_row _ _ (by omega), y2_row _ _ (by omega), y2_row _ _ (by omega), y2_row _ _ (by omega), y2_row _ _ (by omega)]
  · show y1 (y1 (y1 (y1 (yA w) (q + 1) _) (q + 2) _) (q + 3) _) (q + 4) _ p = yA w p
    rw [y1_ne _ _ (by omega), y1_ne _ _ (by omega), y1_ne _ _ (by omega), y1_ne _ _ (by omega)]
  · rw [uI_I, y2_ne _ _ (Or.inr (by decide)), uI_I, y2_ne _ _ (Or.inr (by decide)), uI_I, y2_ne _ _ (Or.inr (by decide)), uI_I, y2_ne _ _ (Or.inr (by decide)), uI_I, y2_same]
  · rw [uI_I, y2_ne _ _ (Or.inr (by decide)), uI_I, y2_ne _ _ (Or.inr (by decide)), uI_I, y2_same]
  · rw [uI_I, y2_ne _ _ (Or.inr (by decide)), uI_I, y2_same]
  · rw [uI_I, y2_same]
  · show y1 (y1 (y1 (y1 (yA w) (q + 1) _) (q + 2) _) (q + 3) _) (q + 4) _ (q + 2) i = _
    rw [y1_ne _ _ (by omega), y1_ne _ _ (by omega), y1_same]
    exact h2 i hi
  · show y1 (y1 (y1 (y1 (yA w) (q + 1) _) (q + 2) _) (q + 3) _) (q + 4) _ (q + 3) i = _
    rw [y1_ne _ _ (by omega), y1_same]
    exact h3 i hi
  · show y1 (y1 (y1 (y1 (yA w) (q + 1) _) (q + 2) _) (q + 3) _) (q + 4) _ (q + 4) i = _
    rw [y1_same]
    exact h4 i hi
section COPY
variable {d : Nat} {w : zm} {u : Nat × Nat} {X : xs}
theorem c2_copy {F : zm → Prop} {q : Nat} (hP : yP w q) (k : ∀ w', cpd w w' q → F w') : zGo d m_X2_copy 0 [.ref q, .ref 1026] [] (yz w) (zKv F) := by
  have hq : 1077 ≤ q := hP.1
  have n1 : ∀ (W : zm) (f : Nat → Int32) (j r : Nat), r < 1077 → yA (yuR W (q + j) f) r = yA W r := fun W f j r hr => y1_ne _ _ (by omega)
  refine B_X2_copy_0 _ ⟨hP, by omega, by omega, by omega, by omega, k _ (cpd_of (fun i hi => ?_) (fun i hi => ?_) (fun i hi => ?_))⟩
  · rw [cpy48 hi, n1 _ _ _ _ (by decide)]
  · rw [cpy48 hi, n1 _ _ _ _ (by decide), n1 _ _ _ _ (by decide)]
  · rw [cpy48 hi, n1 _ _ _ _ (by decide), n1 _ _ _ _ (by decide), n1 _ _ _ _ (by decide)]
theorem cpd.path {w' : zm} {q : Nat} (C : cpd w w' q) {cd : Nat → Int32} {P : pth} (h : pHc cd (yI w) (yA w) 1026 P) (h1 : pLn P ≤ 48) (h2 : pGs cd P ≤ 48) (h3 : ∀ k, k < pGs cd P → pGa cd P k < 48) : pHc cd (yI w') (yA w') q P := by
  obtain ⟨c1, c2, c3, c4, c5, c6, -⟩ := C
  obtain ⟨p1, p2, p3, p4, p5, p6⟩ := h
  refine ⟨by rw [c2]; exact p1, by rw [c3]; exact p2, by rw [c4]; exact p3, by rw [c5]; exact p4, fun i hi hb => ?_, fun k hk => ?_⟩
  · rw [(c6 i (by omega)).1]
    exact p5 i hi hb
  · rw [(c6 _ (h3 k hk)).2.1, (c6 k (by omega)).2.2]
    exact p6 k hk
/-- a bridge is put into its place -/
theorem RCt.bridge (R : RCt u w X) {a p q k : Nat} {T : tr} {P : pth} {w2 : zm} (ha : a < 200) (hT : xT X a = some T) (hp : yQ w 1023 a = some p) (hn : tNb T < 4) (hq : yQ w (p + 9) (tNb T) = some q) (C : cpd w w2 q) (hP : pHc (xC X) (yI w2) (yA w2) q P) :
    RCt u (yuI (yuA w2 (p + 8) k (Int32.ofNat (tNb T))) p 6 (Int32.ofNat (tNb T + 1))) (xMod X a (tBridge k P)) := by
  obtain ⟨c1, c2, c3, c4, c5, c6, c7, c8, c9, c10, c11, c12, c13⟩ := C
  obtain ⟨nT, tp, loc, sc, O, r2, r3, r4, r5, r6, r7⟩ := R
  obtain ⟨t1, t2, i, i1, i2, i3⟩ := O.T ha hp
  obtain ⟨o1, o2, o3⟩ := O.2.2.2.2.1 i (tNb T) q i1 hn (by rw [i2]; exact hq)
  have hpq := sTP t1 o1 (by rw [← i2]; exact o3 i i1)
  have hp0 := t1.1
  have hq0 := o1.1
  have ht : yTop = 1077 := rfl
  have wI : ∀ r, (r < q ∨ q + 5 ≤ r) → r ≠ p → yI (yuI (yuA w2 (p + 8) k (Int32.ofNat (tNb T))) p 6 (Int32.ofNat (tNb T + 1))) r = yI w r := by
    intro r h1 h2
    show y2 (yI w2) p 6 _ r = yI w r
    rw [y2_row _ _ h2, (c1 r h1).1]
  have wA : ∀ r, (r < q ∨ q + 5 ≤ r) → r ≠ p + 8 → yA (yuI (yuA w2 (p + 8) k (Int32.ofNat (tNb T))) p 6 (Int32.ofNat (tNb T + 1))) r = yA w r := by
    intro r h1 h2
    show y1 (yA w2) (p + 8) _ r = yA w r
    rw [y1_ne _ _ h2, (c1 r h1).2]
  have wIp : ∀ b, b ≠ 6 → yI (yuI (yuA w2 (p + 8) k (Int32.ofNat (tNb T))) p 6 (Int32.ofNat (tNb T + 1))) p b = yI w p b := by
    intro b hb
    show y2 (yI w2) p 6 _ p b = yI w p b
    rw [y2_ne _ _ (Or.inr hb), (c1 p (by omega)).1]
  have hX : xT (xMod X a (tBridge k P)) = nSet (xT X) a (some (tBridge k P T)) := by
    show nSet (xT X) a ((xT X a).map (tBridge k P)) = _
    rw [hT]
    rfl
  have hm : xMany (xMod X a (tBridge k P)) = xMany X := xMod_many
  refine ⟨nT, tp, loc, sc, O.keep (wI 1022 (by omega) (by omega)) c7 c8 c9 c12, ?_, by rw [hm]; exact r3, fun b hb h => ?_, fun b Tb hb h => ?_, ?_, ?_⟩
  · rw [wI 1022 (by omega) (by omega), hm]
    exact r2
  · rw [hX] at h
    show yQ w2 1023 b = none
    rw [c7]
    by_cases e : b = a
    · rw [e, nSet_same] at h; cases h
    · rw [nSet_ne _ _ e] at h
      exact r4 b hb h
  · rw [hX] at h
    by_cases e : b = a
    · rw [e, nSet_same] at h
      cases h
      obtain ⟨p', q1, e1, e2, e3, e4, e5, e6, e7, e8⟩ := r5 a T ha hT
      rw [hp] at q1
      cases q1
      refine ⟨p, by show yQ w2 1023 b = some p; rw [c7, e]; exact hp, ?_⟩
      rw [e]
      refine ⟨(wIp 5 (by decide)).trans e1, ?_, (wIp 7 (by decide)).trans e3, (wIp 8 (by decide)).trans e4, ?_, ?_, hn, ?_⟩
      · show y2 (yI w2) p 6 _ p 6 = _
        rw [y2_same]
        rfl
      · exact pHc_fr e5 (wI _ (by omega) (by omega)) (wA _ (by omega) (by omega)) (wA _ (by omega) (by omega)) (wA _ (by omega) (by omega))
      · intro k' hk'
        obtain ⟨z1, z2, z3⟩ := e6 k' hk'
        rw [wA (p + 6) (by omega) (by omega), wA (p + 7) (by omega) (by omega)]
        refine ⟨z1, z2, ?_⟩
        show y1 (yA w2) (p + 8) (upd (yA w2 (p + 8)) k _) (p + 8) k' = vov (nSet (tBr T) k (some (tNb T)) k')
        rw [y1_same]
        by_cases c : k' = k
        · rw [c, upd_same, nSet_same]
          rfl
        · rw [upd_ne _ _ c, nSet_ne _ _ c, (c1 (p + 8) (by omega)).2]
          exact z3
      · intro j hj
        have hj : j < tNb T + 1 := hj
        show ∃ q', yQ w2 (p + 9) j = some q' ∧ pHc (xC X) _ _ q' (nSet (tBp T) (tNb T) P j)
        rw [c7]
        by_cases c : j = tNb T
        · rw [c, nSet_same]
          refine ⟨q, hq, pHc_fr hP ?_ ?_ ?_ ?_⟩
          · show y2 (yI w2) p 6 _ q = yI w2 q
            rw [y2_row _ _ (by omega)]
          · show y1 (yA w2) (p + 8) _ (q + 2) = yA w2 (q + 2)
            rw [y1_ne _ _ (by omega)]
          · show y1 (yA w2) (p + 8) _ (q + 3) = yA w2 (q + 3)
            rw [y1_ne _ _ (by omega)]
          · show y1 (yA w2) (p + 8) _ (q + 4) = yA w2 (q + 4)
            rw [y1_ne _ _ (by omega)]
        · rw [nSet_ne _ _ c]
          obtain ⟨q', q1, q2⟩ := e8 j (by omega)
          obtain ⟨s1, s2, s3⟩ := O.2.2.2.2.1 i j q' i1 (by omega) (by rw [i2]; exact q1)
          have hne : q' ≠ q := by
            intro z
            rw [z] at q1
            exact c (O.2.2.2.2.2.1 i i j (tNb T) q i1 i1 (by omega) hn (by rw [i2]; exact q1) (by rw [i2]; exact hq)).2
          have h5 := sPP s1 o1 hne
          have h6 := sTP t1 s1 (by rw [← i2]; exact s3 i i1)
          exact ⟨q', q1, pHc_fr q2 (wI _ (by omega) (by omega)) (wA _ (by omega) (by omega)) (wA _ (by omega) (by omega)) (wA _ (by omega) (by omega))⟩
    · rw [nSet_ne _ _ e] at h
      obtain ⟨p', q1, e1, e2, e3, e4, e5, e6, e7, e8⟩ := r5 b Tb hb h
      obtain ⟨u1, u2, i', j1, j2, j3⟩ := O.T hb q1
      have hne : p ≠ p' := by
        intro z
        rw [z, ← j2] at i2
        have := O.2.2.2.1 i i' i1 j1 i2
        rw [this, j3] at i3
        exact e i3
      have hii : i ≠ i' := by
        intro z
        rw [z, j2] at i2
        exact hne i2.symm
      have hs := sTT t1 u1 hne
      have hs2 := sTP u1 o1 (by rw [← j2]; exact o3 i' j1)
      refine ⟨p', by show yQ w2 1023 b = some p'; rw [c7]; exact q1, ?_⟩
      show tHc (xC X) _ _ (yQ w2) p' b Tb
      rw [c7]
      unfold tHc
      rw [wI p' (by omega) (by omega), wA (p' + 6) (by omega) (by omega), wA (p' + 7) (by omega) (by omega), wA (p' + 8) (by omega) (by omega)]
      refine ⟨e1, e2, e3, e4, pHc_fr e5 (wI _ (by omega) (by omega)) (wA _ (by omega) (by omega)) (wA _ (by omega) (by omega)) (wA _ (by omega) (by omega)), e6, e7, fun j hj => ?_⟩
      obtain ⟨q', q1, q2⟩ := e8 j hj
      obtain ⟨s1, s2, s3⟩ := O.2.2.2.2.1 i' j q' j1 (by omega) (by rw [j2]; exact q1)
      have hne' : q' ≠ q := by
        intro z
        rw [z] at q1
        exact hii (O.2.2.2.2.2.1 i i' (tNb T) j q i1 j1 hn (by omega) (by rw [i2]; exact hq) (by rw [j2]; exact q1)).1
      have h5 := sPP s1 o1 hne'
      have h6 := sTP t1 s1 (by rw [← i2]; exact s3 i i1)
      exact ⟨q', q1, pHc_fr q2 (wI _ (by omega) (by omega)) (wA _ (by omega) (by omega)) (wA _ (by omega) (by omega)) (wA _ (by omega) (by omega))⟩
  · show ySz w2 ≤ _
    rw [c12, bN_keep (w' := yuI (yuA w2 (p + 8) k (Int32.ofNat (tNb T))) p 6 (Int32.ofNat (tNb T + 1))) (w := w) nT tp c7]
    exact r6
  · show ySl w2 ≤ _
    rw [c13, bN_keep (w' := yuI (yuA w2 (p + 8) k (Int32.ofNat (tNb T))) p 6 (Int32.ofNat (tNb T + 1))) (w := w) nT tp c7]
    exact r7
end COPY
