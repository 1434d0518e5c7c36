/-! verified words, and following a path -/
/-- the heights of the stack at the addresses that can be reached -/
def aV (m : Nat) (cd : Nat → Int32) (H : Nat → Option Nat) : Prop := 0 < m ∧ m ≤ 200 ∧ H 0 = some 0 ∧ ∀ a h, H a = some h → a < m ∧ aop cd a ≤ 26 ∧ h ≤ 16 ∧ tk (aop cd a) ≤ h ∧ h - tk (aop cd a) + pt (aop cd a) ≤ 16 ∧
  (aop cd a = 2 ∨ aop cd a = 3 → ∃ x, x < 16 ∧ aarg cd a = Int32.ofNat x) ∧ (aop cd a = 21 ∨ aop cd a = 22 ∨ aop cd a = 23 → ∃ x, x < m ∧ aarg cd a = Int32.ofNat x ∧ H x = some (h - tk (aop cd a) + pt (aop cd a))) ∧
  (¬ aop cd a = 21 → ¬ aop cd a = 0 → H (a + 1) = some (h - tk (aop cd a) + pt (aop cd a)))
theorem aeff_ht {o : Nat} (ho : o ≤ 26) (x : Int32) {h : Nat} (em : Nat) (stk loc mem out : Nat → Int32) (ht : tk o ≤ h) : (aeff o x h em stk loc mem out).1 = h - tk o + pt o := by
  unfold aeff
  by_cases ha : 4 ≤ o ∧ o ≤ 15
  · rw [if_pos ha]
    have e1 : tk o = 2 := by unfold tk; rw [if_neg (by omega), if_pos (Or.inl ha)]
    have e2 : pt o = 1 := by unfold pt; rw [if_neg (by omega), if_pos (by omega)]
    rw [e1] at ht
    rw [e1, e2]
    show h - 1 = _
    omega
  · rw [if_neg ha]
    obtain e | e | e | e | e | e | e | e | e | e | e | e | e | e | e : o = 0 ∨ o = 1 ∨ o = 2 ∨ o = 3 ∨ o = 16 ∨ o = 17 ∨ o = 18 ∨ o = 19 ∨ o = 20 ∨ o = 21 ∨ o = 22 ∨ o = 23 ∨ o = 24 ∨ o = 25 ∨ o = 26 := by omega
    all_goals
      subst e
      simp only [tk, pt] at ht ⊢
      simp at ht ⊢
      try omega
theorem aeff_em {o : Nat} (x : Int32) (h em : Nat) (stk loc mem out : Nat → Int32) : (aeff o x h em stk loc mem out).2.1 ≤ em + 1 := by
  unfold aeff
  split
  · exact Nat.le_succ _
  · split <;> first
      | exact Nat.le_succ _
      | exact Nat.le_refl _
section VER
variable {m : Nat} {cd : Nat → Int32} {H : Nat → Option Nat}
theorem aV.safe (V : aV m cd H) {pc h : Nat} (hh : H pc = some h) {em : Nat} {stk : Nat → Int32} (he : em < 2000000000) (hb : aop cd pc = 7 ∨ aop cd pc = 8 → ¬ stk (h - 1) = 0) : aSafe m cd pc h em stk := by
  obtain ⟨v1, v2, v3, v4⟩ := V
  obtain ⟨u1, u2, u3, u4, u5, u6, u7, u8⟩ := v4 _ _ hh
  refine ⟨u1, v2, u2, u3, u4, u5, he, u6, fun z => ?_, hb⟩
  obtain ⟨x, x1, x2, -⟩ := u7 z
  exact ⟨x, x1, x2⟩
theorem aV.next (V : aV m cd H) {pc h : Nat} (hh : H pc = some h) (h0 : ¬ aop cd pc = 0) (stk : Nat → Int32) : H (anext (aop cd pc) (aarg cd pc) pc h stk) = some (h - tk (aop cd pc) + pt (aop cd pc)) := by
  obtain ⟨v1, v2, v3, v4⟩ := V
  obtain ⟨u1, u2, u3, u4, u5, u6, u7, u8⟩ := v4 _ _ hh
  unfold anext
  by_cases e1 : aop cd pc = 21
  · obtain ⟨x, x1, x2, x3⟩ := u7 (Or.inl e1)
    rw [if_pos e1, x2, n_cl (by omega)]
    exact x3
  · rw [if_neg e1]
    by_cases e2 : aop cd pc = 22
    · obtain ⟨x, x1, x2, x3⟩ := u7 (Or.inr (Or.inl e2))
      rw [if_pos e2]
      split
      · exact u8 e1 h0
      · rw [x2, n_cl (by omega)]
        exact x3
    · rw [if_neg e2]
      by_cases e3 : aop cd pc = 23
      · obtain ⟨x, x1, x2, x3⟩ := u7 (Or.inr (Or.inr e3))
        rw [if_pos e3]
        split
        · rw [x2, n_cl (by omega)]
          exact x3
        · exact u8 e1 h0
      · rw [if_neg e3, if_neg h0]
        exact u8 e1 h0
theorem aV.ht (V : aV m cd H) {pc h : Nat} (hh : H pc = some h) (h0 : ¬ aop cd pc = 0) (em : Nat) (n : Int64) (stk loc mem out : Nat → Int32) : H (astep cd (pc, h, em, n, stk, loc, mem, out)).1 = some (astep cd (pc, h, em, n, stk, loc, mem, out)).2.1 := by
  obtain ⟨u1, u2, u3, u4, -⟩ := V.2.2.2 _ _ hh
  have e1 := V.next hh h0 stk
  have e2 := aeff_ht u2 (aarg cd pc) em stk loc mem out u4
  show H (anext (aop cd pc) (aarg cd pc) pc h stk) = some (aeff (aop cd pc) (aarg cd pc) h em stk loc mem out).1
  rw [e1, e2]
end VER
/-- a step would break -/
def abrk (cd : Nat → Int32) (pc h : Nat) (stk : Nat → Int32) : Bool := (decide (aop cd pc = 7) || decide (aop cd pc = 8)) && decide (stk (h - 1) = 0)
theorem abrk_iff (cd : Nat → Int32) (pc h : Nat) (stk : Nat → Int32) : abrk cd pc h stk = true ↔ (aop cd pc = 7 ∨ aop cd pc = 8) ∧ stk (h - 1) = 0 := by
  unfold abrk
  simp
/-- how far a path is followed, and where that leads -/
def afol (cd g : Nat → Int32) : Nat → Nat → am → Nat × am
  | 0, i, a => (i, a)
  | k + 1, i, a => if abrk cd a.1 a.2.1 a.2.2.2.2.1 = true ∨ ¬ achoice (aop cd a.1) a.2.1 a.2.2.2.2.1 = g i then (i, a) else afol cd g k (i + 1) (astep cd a)
/-- where a step leads whose choice is known -/
def anx (cd : Nat → Int32) (p : Nat) (v : Int32) : Nat := if aop cd p = 21 then (aarg cd p).toNatClampNeg else if aop cd p = 22 then (if v = 0 then p + 1 else (aarg cd p).toNatClampNeg) else if aop cd p = 23 then (if v = 0 then (aarg cd p).toNatClampNeg else p + 1) else if aop cd p = 0 then p else p + 1
theorem anx_of {cd : Nat → Int32} {p h : Nat} {stk : Nat → Int32} {v : Int32} (hv : achoice (aop cd p) h stk = v) : anext (aop cd p) (aarg cd p) p h stk = anx cd p v := by
  subst hv
  unfold anext anx achoice
  by_cases e1 : aop cd p = 21
  · rw [if_pos e1, if_pos e1]
  · rw [if_neg e1, if_neg e1]
    by_cases e2 : aop cd p = 22
    · rw [if_pos e2, if_pos e2, if_pos (Or.inl e2)]
      by_cases z : stk (h - 1) = 0
      · rw [if_pos z, if_pos z, if_pos rfl]
      · rw [if_neg z, if_neg z, if_neg (by decide)]
    · rw [if_neg e2, if_neg e2]
      by_cases e3 : aop cd p = 23
      · rw [if_pos e3, if_pos e3, if_pos (Or.inr e3)]
        by_cases z : stk (h - 1) = 0
        · rw [if_pos z, if_pos z, if_pos rfl]
        · rw [if_neg z, if_neg z, if_neg (by decide)]
      · rw [if_neg e3, if_neg e3]
/-- a path: its addresses, its choices; it comes back to where it began -/
def aPath (cd : Nat → Int32) (len : Nat) (ad : Nat → Nat) (g : Nat → Int32) : Prop := ∀ i, i < len → ¬ aop cd (ad i) = 0 ∧ ad (i + 1) = anx cd (ad i) (g i) ∧ (aop cd (ad i) = 22 ∨ aop cd (ad i) = 23 → g i = 0 ∨ g i = 1) ∧ (¬ (aop cd (ad i) = 22 ∨ aop cd (ad i) = 23) → g i = -1)
theorem putm_row (w : zm) (a : am) {q : Nat} (h : yTop ≤ q) : yA (putm w a) q = yA w q := by
  unfold yTop at h
  show y1 (y1 (y1 (y1 (yA w) 1010 a.2.2.2.2.1) 1008 a.2.2.2.2.2.1) 1011 a.2.2.2.2.2.2.1) 1012 a.2.2.2.2.2.2.2 q = yA w q
  rw [y1_ne _ _ (by omega), y1_ne _ _ (by omega), y1_ne _ _ (by omega), y1_ne _ _ (by omega)]
section FOL
variable {d : Nat} {w : zm} {m : Nat} {cd g zr : Nat → Int32} {H : Nat → Option Nat} {len : Nat} {ad : Nat → Nat}
theorem c2_wasZero {F : Int32 → zm → Prop} {p i : Nat} (hP : yP w p) (hi : i < 48) (k : F (if yA w (p + 2) i = 1 then 1 else 0) w) : zGo d m_X2_wasZero 0 [.ref p, .int (Int32.ofNat i)] [] (yz w) (zKi F) := by
  refine B_X2_wasZero_0 _ _ ?_
  simp (disch := omega) only [n_lit 48, n_lit 0, n_lt, n_cl]
  refine ⟨fun c => absurd c (by omega), fun _ => ⟨fun _ => ⟨hP, n_in hi (by decide), fun e => ?_, fun e => ?_⟩, fun c => absurd hi c⟩⟩
  · rwa [if_pos e] at k
  · rwa [if_neg e] at k
set_option maxHeartbeats 1000000 in
theorem c1_follow_at {F : Int32 → zm → Prop} (C : yCd w m cd) (V : aV m cd H) (A : aPath cd len ad g) {p : Nat} (hP : yP w p) (hl : yI w p 4 = Int32.ofNat len) (hl48 : len ≤ 48) (hz : ∀ i, i < len → (aop cd (ad i) = 22 ∨ aop cd (ad i) = 23) → (yA w (p + 2) i = 1 ↔ g i = 0)) :
    ∀ (k i : Nat) (u3 u4 u5 : Value) (pc h em : Nat) (n : Int64) (stk loc mem out : Nat → Int32), i + k = len → zisL u3 = false → zisL u4 = false → zisL u5 = false → pc = ad i → H pc = some h → em + k < 2000000000 →
      F (Int32.ofNat (afol cd g k i (pc, h, em, n, stk, loc, mem, out)).1) (putm w (afol cd g k i (pc, h, em, n, stk, loc, mem, out)).2) →
      zGo (d + 4) m_X1_follow 2 [.ref 1007, .ref p, .int (Int32.ofNat i), u3, u4, u5] [] (yz (putm w (pc, h, em, n, stk, loc, mem, out))) (zKi F) := by
  have hrow : ∀ a : am, yA (putm w a) (p + 2) = yA w (p + 2) := fun a => putm_row w a (by have := hP.1; omega)
  have hP' : ∀ a : am, yP (putm w a) p := fun _ => hP
  have hl' : ∀ a : am, yI (putm w a) p 4 = Int32.ofNat len := fun _ => hl
  have C' : ∀ a : am, yCd (putm w a) m cd := fun _ => C
  intro k
  induction k with
  | zero =>
    intro i u3 u4 u5 pc h em n stk loc mem out hik n3 n4 n5 hpc hh hem k
    refine B_X1_follow_2 _ _ _ _ _ n3 n4 n5 ⟨hP' _, ?_⟩
    simp (disch := omega) only [hl', n_lt]
    refine ⟨fun c => absurd c (by omega), fun _ => ?_⟩
    have : len = i := by omega
    rw [this]
    exact k
  | succ k ih =>
    intro i u3 u4 u5 pc h em n stk loc mem out hik n3 n4 n5 hpc hh hem K
    have hi : i < len := by omega
    obtain ⟨a1, a2, a3, a4⟩ := A i hi
    rw [← hpc] at a1 a2 a3 a4
    obtain ⟨v1, v2, v3, v4, v5, -⟩ := V.2.2.2 _ _ hh
    have hm := V.2.1
    have hle := (aop_eq cd pc).2
    have hz' := hz i hi
    rw [← hpc] at hz'
    refine B_X1_follow_2 _ _ _ _ _ n3 n4 n5 ⟨hP' _, ?_⟩
    simp (disch := omega) only [hl', n_lt]
    refine ⟨fun _ => ?_, fun c => absurd hi c⟩
    refine c0_op (C' _) v1 ?_
    rw [(aop_eq cd pc).1]
    simp (disch := omega) only [n_lit 22, n_lit 23, n_eq]
    -- what comes behind the question whether a branch goes otherwise
    have go74 : ∀ (u : Value) (b : Int32) (s0 : Int32), zisL u = false → (s0 = 0 → achoice (aop cd pc) h stk = g i) → (¬ s0 = 0 → ¬ achoice (aop cd pc) h stk = g i) →
        zGo (d + 4) m_X1_follow 74 [.ref 1007, .ref p, .int (Int32.ofNat i), .int (Int32.ofNat (aop cd pc)), .int b, u] [.int s0] (yz (putm w (pc, h, em, n, stk, loc, mem, out))) (zKi F) := by
      intro u b s0 hu hs1 hs2
      refine B_X1_follow_74 _ _ _ _ _ _ hu ⟨fun z => ?_, fun z => ?_⟩
      · have hch := hs1 z
        have ht7 : aop cd pc = 7 ∨ aop cd pc = 8 → 0 < h := by
          intro q
          rcases q with q | q <;> (rw [q] at v4; simp [tk] at v4; omega)
        refine c1_wouldBreak C v1 v3 ht7 ?_
        by_cases hb : (aop cd pc = 7 ∨ aop cd pc = 8) ∧ stk (h - 1) = 0
        · rw [if_pos hb]
          refine ⟨fun q => absurd q (by decide), fun _ => ?_⟩
          have : afol cd g (k + 1) i (pc, h, em, n, stk, loc, mem, out) = (i, (pc, h, em, n, stk, loc, mem, out)) := by
            unfold afol
            rw [if_pos (Or.inl ((abrk_iff cd pc h stk).mpr hb))]
          rw [this] at K
          exact K
        · rw [if_neg hb]
          refine ⟨fun _ => ?_, fun q => absurd rfl q⟩
          have hnb : ¬ (abrk cd pc h stk = true ∨ ¬ achoice (aop cd pc) h stk = g i) := by
            intro q
            rcases q with q | q
            · exact hb ((abrk_iff cd pc h stk).mp q)
            · exact q hch
          have : afol cd g (k + 1) i (pc, h, em, n, stk, loc, mem, out) = afol cd g k (i + 1) (astep cd (pc, h, em, n, stk, loc, mem, out)) := by
            conv => lhs; unfold afol
            rw [if_neg hnb]
          rw [this] at K
          refine c1_step C (V.safe hh (by omega) (fun q z9 => hb ⟨q, z9⟩)) ?_
          rw [if_neg a1]
          have e1 := V.ht hh a1 em n stk loc mem out
          have e2 : (astep cd (pc, h, em, n, stk, loc, mem, out)).1 = ad (i + 1) := by
            rw [a2]
            exact anx_of hch
          have e3 : (astep cd (pc, h, em, n, stk, loc, mem, out)).2.2.1 ≤ em + 1 := aeff_em _ _ _ _ _ _ _
          generalize hst : astep cd (pc, h, em, n, stk, loc, mem, out) = a' at *
          obtain ⟨pc', h', em', n', stk', loc', mem', out'⟩ := a'
          dsimp only at e1 e2 e3
          rw [show (Int32.ofNat i + 1 : Int32) = Int32.ofNat (i + 1) from n_add i 1]
          exact ih (i + 1) _ _ _ pc' h' em' n' stk' loc' mem' out' (by omega) rfl rfl rfl e2 e1 (by omega) K
      · have : afol cd g (k + 1) i (pc, h, em, n, stk, loc, mem, out) = (i, (pc, h, em, n, stk, loc, mem, out)) := by
          unfold afol
          rw [if_pos (Or.inr (hs2 z))]
        rw [this] at K
        exact K
    have go39 : (aop cd pc = 22 ∨ aop cd pc = 23) → zGo (d + 4) m_X1_follow 39 [.ref 1007, .ref p, .int (Int32.ofNat i), .int (Int32.ofNat (aop cd pc)), u4, u5] [.int 1] (yz (putm w (pc, h, em, n, stk, loc, mem, out))) (zKi F) := by
      intro ho
      have h0 : ¬ h = 0 := by
        rcases ho with q | q <;> (rw [q] at v4; simp [tk] at v4; omega)
      refine B_X1_follow_39 _ _ _ _ _ _ n4 n5 ⟨fun q => absurd q (by decide), fun _ => ?_⟩
      refine c3_top v3 ?_
      rw [if_neg h0]
      have hg := a3 ho
      have hzz := hz' ho
      have hch : achoice (aop cd pc) h stk = if stk (h - 1) = 0 then 0 else 1 := by unfold achoice; rw [if_pos ho]
      refine ⟨fun z => ⟨hP' _, c2_wasZero (hP' _) (by omega) ?_⟩, fun z => ⟨hP' _, c2_wasZero (hP' _) (by omega) ?_⟩⟩
      · rw [hrow]
        rw [if_pos z] at hch
        by_cases e : yA w (p + 2) i = 1
        · rw [if_pos e]
          refine ⟨fun _ => go74 _ _ _ n5 (fun _ => by rw [hch, hzz.mp e]) (fun q => absurd rfl q), fun q => absurd rfl q⟩
        · rw [if_neg e]
          refine ⟨fun q => absurd q (by decide), fun _ => go74 _ _ _ n5 (fun q => absurd q (by decide)) (fun _ q => e (hzz.mpr (by rw [← q, hch])))⟩
      · rw [hrow]
        rw [if_neg z] at hch
        by_cases e : yA w (p + 2) i = 1
        · rw [if_pos e]
          refine ⟨fun q => absurd q (by decide), fun _ => go74 _ _ _ n5 (fun q => absurd q (by decide)) (fun _ q => ?_)⟩
          rw [hch, hzz.mp e] at q
          exact absurd q (by decide)
        · rw [if_neg e]
          refine ⟨fun _ => go74 _ _ _ n5 (fun _ => ?_) (fun q => absurd rfl q), fun q => absurd rfl q⟩
          rw [hch]
          rcases hg with hg | hg
          · exact absurd (hzz.mpr hg) e
          · exact hg.symm
    refine ⟨fun e => go39 (Or.inl e), fun e1 => ⟨fun e => go39 (Or.inr e), fun e2 => ?_⟩⟩
    refine B_X1_follow_39 _ _ _ _ _ _ n4 n5 ⟨fun _ => ?_, fun q => absurd rfl q⟩
    have hno : ¬ (aop cd pc = 22 ∨ aop cd pc = 23) := fun q => q.elim e1 e2
    refine go74 _ _ _ n5 (fun _ => ?_) (fun q => absurd rfl q)
    unfold achoice
    rw [if_neg hno]
    exact (a4 hno).symm
theorem c1_follow {F : Int32 → zm → Prop} (C : yCd w m cd) (V : aV m cd H) (A : aPath cd len ad g) {p : Nat} (hP : yP w p) (hl : yI w p 4 = Int32.ofNat len) (hl48 : len ≤ 48) (hz : ∀ i, i < len → (aop cd (ad i) = 22 ∨ aop cd (ad i) = 23) → (yA w (p + 2) i = 1 ↔ g i = 0))
    {pc h em : Nat} {n : Int64} {stk loc mem out : Nat → Int32} (hpc : pc = ad 0) (hh : H pc = some h) (hem : em + len < 2000000000)
    (k : F (Int32.ofNat (afol cd g len 0 (pc, h, em, n, stk, loc, mem, out)).1) (putm w (afol cd g len 0 (pc, h, em, n, stk, loc, mem, out)).2)) :
    zGo (d + 4) m_X1_follow 0 [.ref 1007, .ref p, zJ, zJ, zJ, zJ] [] (yz (putm w (pc, h, em, n, stk, loc, mem, out))) (zKi F) :=
  B_X1_follow_0 _ (c1_follow_at C V A hP hl hl48 hz len 0 _ _ _ pc h em n stk loc mem out (by omega) rfl rfl rfl hpc hh hem k)
end FOL
