/-! the model follows a path -/
theorem pM_L (c : zm) (s : ms) (a : am) {b : Nat} (hb : b ≠ 13) (v : Int64) : yuL (putM c s a) 1031 b v = putM c (tL s b v) a := by
  unfold putM
  rw [p_L]
  unfold tL pmM
  dsimp only
  rw [y1_comm (p := 13) (p' := b) _ _ _ (fun e => hb e.symm)]
theorem pM_L14 (c : zm) (s : ms) (a : am) (v : Int64) : yuL (putM c s a) 1031 14 (yL (putM c s a) 1031 14 + v) = putM c (tL s 14 (sL s 14 + v)) a := pM_L c s a (by decide) _
theorem pM_I (c : zm) (s : ms) (a : am) {b : Nat} (h6 : b ≠ 6) (h9 : b ≠ 9) (h12 : b ≠ 12) (v : Int32) : yuI (putM c s a) 1031 b v = putM c (tI s b v) a := by
  unfold putM
  rw [p_I]
  unfold tI pmM
  dsimp only
  rw [y1_comm (p := 12) (p' := b) _ _ _ (fun e => h12 e.symm), y1_comm (p := 9) (p' := b) _ _ _ (fun e => h9 e.symm), y1_comm (p := 6) (p' := b) _ _ _ (fun e => h6 e.symm)]
theorem pM_R (c : zm) (s : ms) (a : am) {p : Nat} (h1 : p ≠ 1033) (h2 : p ≠ 1034) (h3 : p ≠ 1035) (h4 : p ≠ 1036) (hr : yrM p = true) (f : Nat → Int32) : yuR (putM c s a) p f = putM c (tA s p f) a := by
  unfold putM
  rw [p_R _ _ _ _ hr]
  unfold tA pmM
  dsimp only
  rw [y1_comm (p := 1036) (p' := p) _ _ _ (fun e => h4 e.symm), y1_comm (p := 1035) (p' := p) _ _ _ (fun e => h3 e.symm), y1_comm (p := 1033) (p' := p) _ _ _ (fun e => h1 e.symm), y1_comm (p := 1034) (p' := p) _ _ _ (fun e => h2 e.symm)]
section FOM
variable {d : Nat} {c : zm} {s : ms} {m : Nat} {cd g : Nat → Int32} {H : Nat → Option Nat} {len : Nat} {ad : Nat → Nat}
set_option maxHeartbeats 1000000 in
theorem c9_follow_t_at {F : Int32 → zm → Prop} (hc : sA s 1032 = cd) (V : aV m cd H) (A : aPath cd len ad g) {b : Nat} (hg : ∀ i, i < len → sA s 1042 (b + i) = g i) (hb : b + len ≤ 768) (hl48 : len ≤ 48) :
    ∀ (k i pc h em : Nat) (n : Int64) (stk loc mem out : Nat → Int32), i + k = len → pc = ad i → H pc = some h → em + k < 2000000000 →
      F (Int32.ofNat (afol cd g k i (pc, h, em, n, stk, loc, mem, out)).1) (putM c (tL s 14 (sL s 14 + (Int32.ofNat (afol cd g k i (pc, h, em, n, stk, loc, mem, out)).1).toInt64)) (afol cd g k i (pc, h, em, n, stk, loc, mem, out)).2) →
      zGo (d + 3) m_X9_follow 3 [.ref 1031, .ref 1041, .ref 1042, .int (Int32.ofNat b), .int (Int32.ofNat len), .int (Int32.ofNat i)] [] (yz (putM c s (pc, h, em, n, stk, loc, mem, out))) (zKi F) := by
  have go40 : ∀ (i : Nat) (a : am), F (Int32.ofNat i) (putM c (tL s 14 (sL s 14 + (Int32.ofNat i).toInt64)) a) → zGo (d + 3) m_X9_follow 40 [.ref 1031, .ref 1041, .ref 1042, .int (Int32.ofNat b), .int (Int32.ofNat len), .int (Int32.ofNat i)] [] (yz (putM c s a)) (zKi F) := by
    intro i a k
    refine B_X9_follow_t_40 _ _ _ ?_
    rw [pM_L14]
    exact k
  intro k
  induction k with
  | zero =>
    intro i pc h em n stk loc mem out hik hpc hh hem k
    refine B_X9_follow_t_3 _ _ _ ?_
    simp (disch := omega) only [n_lt]
    exact ⟨fun c => absurd c (by omega), fun _ => go40 _ _ k⟩
  | succ k ih =>
    intro i pc h em n stk loc mem out hik hpc hh hem K
    have hi : i < len := by omega
    obtain ⟨a1, a2, a3, a4⟩ := A i hi
    rw [← hpc] at a1 a2 a3 a4
    obtain ⟨v1, v2, v3, v4, v5, -⟩ := V.2.2.2 _ _ hh
    have hm := V.2.1
    have ht7 : aop cd pc = 7 ∨ aop cd pc = 8 → 0 < h := by
      intro q
      rcases q with q | q <;> (rw [q] at v4; simp [tk] at v4; omega)
    have ht22 : aop cd pc = 22 ∨ aop cd pc = 23 → 0 < h := by
      intro q
      rcases q with q | q <;> (rw [q] at v4; simp [tk] at v4; omega)
    refine B_X9_follow_t_3 _ _ _ ?_
    simp (disch := omega) only [n_lt]
    refine ⟨fun _ => ?_, fun q => absurd hi q⟩
    refine c9_breaks hc (by omega) v3 ht7 ?_
    by_cases hbr : (aop cd pc = 7 ∨ aop cd pc = 8) ∧ stk (h - 1) = 0
    · rw [if_pos hbr]
      refine ⟨fun q => absurd q (by decide), fun _ => go40 _ _ ?_⟩
      have : afol cd g (k + 1) i (pc, h, em, n, stk, loc, mem, out) = (i, (pc, h, em, n, stk, loc, mem, out)) := by
        unfold afol
        rw [if_pos (Or.inl ((abrk_iff cd pc h stk).mpr hbr))]
      rw [this] at K
      exact K
    · rw [if_neg hbr]
      refine ⟨fun _ => ?_, fun q => absurd rfl q⟩
      refine c9_choice hc (by omega) v3 ht22 ?_
      have hrow : yA (putM c s (pc, h, em, n, stk, loc, mem, out)) 1042 = sA s 1042 := rfl
      simp (disch := omega) only [n_add, n_cl, hrow, hg i hi]
      refine ⟨n_in (by omega) (by decide), fun hch => ?_, fun hch => go40 _ _ ?_⟩
      · have hnb : ¬ (abrk cd pc h stk = true ∨ ¬ achoice (aop cd pc) h stk = g i) := by
          intro q
          rcases q with q | q
          · exact hbr ((abrk_iff cd pc h stk).mp q)
          · exact q hch
        have : afol cd g (k + 1) i (pc, h, em, n, stk, loc, mem, out) = afol cd g k (i + 1) (astep cd (pc, h, em, n, stk, loc, mem, out)) := by
          conv => lhs; unfold afol
          rw [if_neg hnb]
        rw [this] at K
        refine c9_act hc (V.safe hh (by omega) (fun q z9 => hbr ⟨q, z9⟩)) ?_
        have e1 := V.ht hh a1 em n stk loc mem out
        have e2 : (astep cd (pc, h, em, n, stk, loc, mem, out)).1 = ad (i + 1) := by
          rw [a2]
          exact anx_of hch
        have e3 : (astep cd (pc, h, em, n, stk, loc, mem, out)).2.2.1 ≤ em + 1 := aeff_em _ _ _ _ _ _ _
        generalize hst : astep cd (pc, h, em, n, stk, loc, mem, out) = a' at *
        obtain ⟨pc', h', em', n', stk', loc', mem', out'⟩ := a'
        dsimp only at e1 e2 e3
        rw [show (Int32.ofNat i + 1 : Int32) = Int32.ofNat (i + 1) from n_add i 1]
        exact ih (i + 1) pc' h' em' n' stk' loc' mem' out' (by omega) e2 e1 (by omega) K
      · have : afol cd g (k + 1) i (pc, h, em, n, stk, loc, mem, out) = (i, (pc, h, em, n, stk, loc, mem, out)) := by
          unfold afol
          rw [if_pos (Or.inr hch)]
        rw [this] at K
        exact K
theorem c9_follow_t {F : Int32 → zm → Prop} (hc : sA s 1032 = cd) (V : aV m cd H) (A : aPath cd len ad g) {b : Nat} (hg : ∀ i, i < len → sA s 1042 (b + i) = g i) (hb : b + len ≤ 768) (hl48 : len ≤ 48)
    {pc h em : Nat} {n : Int64} {stk loc mem out : Nat → Int32} (hpc : pc = ad 0) (hh : H pc = some h) (hem : em + len < 2000000000)
    (k : F (Int32.ofNat (afol cd g len 0 (pc, h, em, n, stk, loc, mem, out)).1) (putM c (tL s 14 (sL s 14 + (Int32.ofNat (afol cd g len 0 (pc, h, em, n, stk, loc, mem, out)).1).toInt64)) (afol cd g len 0 (pc, h, em, n, stk, loc, mem, out)).2)) :
    zGo (d + 3) m_X9_follow 0 [.ref 1031, .ref 1041, .ref 1042, .int (Int32.ofNat b), .int (Int32.ofNat len), zJ] [] (yz (putM c s (pc, h, em, n, stk, loc, mem, out))) (zKi F) :=
  B_X9_follow_t_0 _ _ (c9_follow_t_at hc V A hg hb hl48 len 0 pc h em n stk loc mem out (by omega) hpc hh hem k)
set_option maxHeartbeats 1000000 in
theorem c9_follow_b_at {F : Int32 → zm → Prop} (hc : sA s 1032 = cd) (V : aV m cd H) (A : aPath cd len ad g) {b : Nat} (hg : ∀ i, i < len → sA s 1055 (b + i) = g i) (hb : b + len ≤ 3072) (hl48 : len ≤ 48) :
    ∀ (k i pc h em : Nat) (n : Int64) (stk loc mem out : Nat → Int32), i + k = len → pc = ad i → H pc = some h → em + k < 2000000000 →
      F (Int32.ofNat (afol cd g k i (pc, h, em, n, stk, loc, mem, out)).1) (putM c (tL s 14 (sL s 14 + (Int32.ofNat (afol cd g k i (pc, h, em, n, stk, loc, mem, out)).1).toInt64)) (afol cd g k i (pc, h, em, n, stk, loc, mem, out)).2) →
      zGo (d + 3) m_X9_follow 3 [.ref 1031, .ref 1054, .ref 1055, .int (Int32.ofNat b), .int (Int32.ofNat len), .int (Int32.ofNat i)] [] (yz (putM c s (pc, h, em, n, stk, loc, mem, out))) (zKi F) := by
  have go40 : ∀ (i : Nat) (a : am), F (Int32.ofNat i) (putM c (tL s 14 (sL s 14 + (Int32.ofNat i).toInt64)) a) → zGo (d + 3) m_X9_follow 40 [.ref 1031, .ref 1054, .ref 1055, .int (Int32.ofNat b), .int (Int32.ofNat len), .int (Int32.ofNat i)] [] (yz (putM c s a)) (zKi F) := by
    intro i a k
    refine B_X9_follow_b_40 _ _ _ ?_
    rw [pM_L14]
    exact k
  intro k
  induction k with
  | zero =>
    intro i pc h em n stk loc mem out hik hpc hh hem k
    refine B_X9_follow_b_3 _ _ _ ?_
    simp (disch := omega) only [n_lt]
    exact ⟨fun c => absurd c (by omega), fun _ => go40 _ _ k⟩
  | succ k ih =>
    intro i pc h em n stk loc mem out hik hpc hh hem K
    have hi : i < len := by omega
    obtain ⟨a1, a2, a3, a4⟩ := A i hi
    rw [← hpc] at a1 a2 a3 a4
    obtain ⟨v1, v2, v3, v4, v5, -⟩ := V.2.2.2 _ _ hh
    have hm := V.2.1
    have ht7 : aop cd pc = 7 ∨ aop cd pc = 8 → 0 < h := by
      intro q
      rcases q with q | q <;> (rw [q] at v4; simp [tk] at v4; omega)
    have ht22 : aop cd pc = 22 ∨ aop cd pc = 23 → 0 < h := by
      intro q
      rcases q with q | q <;> (rw [q] at v4; simp [tk] at v4; omega)
    refine B_X9_follow_b_3 _ _ _ ?_
    simp (disch := omega) only [n_lt]
    refine ⟨fun _ => ?_, fun q => absurd hi q⟩
    refine c9_breaks hc (by omega) v3 ht7 ?_
    by_cases hbr : (aop cd pc = 7 ∨ aop cd pc = 8) ∧ stk (h - 1) = 0
    · rw [if_pos hbr]
      refine ⟨fun q => absurd q (by decide), fun _ => go40 _ _ ?_⟩
      have : afol cd g (k + 1) i (pc, h, em, n, stk, loc, mem, out) = (i, (pc, h, em, n, stk, loc, mem, out)) := by
        unfold afol
        rw [if_pos (Or.inl ((abrk_iff cd pc h stk).mpr hbr))]
      rw [this] at K
      exact K
    · rw [if_neg hbr]
      refine ⟨fun _ => ?_, fun q => absurd rfl q⟩
      refine c9_choice hc (by omega) v3 ht22 ?_
      have hrow : yA (putM c s (pc, h, em, n, stk, loc, mem, out)) 1055 = sA s 1055 := rfl
      simp (disch := omega) only [n_add, n_cl, hrow, hg i hi]
      refine ⟨n_in (by omega) (by decide), fun hch => ?_, fun hch => go40 _ _ ?_⟩
      · have hnb : ¬ (abrk cd pc h stk = true ∨ ¬ achoice (aop cd pc) h stk = g i) := by
          intro q
          rcases q with q | q
          · exact hbr ((abrk_iff cd pc h stk).mp q)
          · exact q hch
        have : afol cd g (k + 1) i (pc, h, em, n, stk, loc, mem, out) = afol cd g k (i + 1) (astep cd (pc, h, em, n, stk, loc, mem, out)) := by
          conv => lhs; unfold afol
          rw [if_neg hnb]
        rw [this] at K
        refine c9_act hc (V.safe hh (by omega) (fun q z9 => hbr ⟨q, z9⟩)) ?_
        have e1 := V.ht hh a1 em n stk loc mem out
        have e2 : (astep cd (pc, h, em, n, stk, loc, mem, out)).1 = ad (i + 1) := by
          rw [a2]
          exact anx_of hch
        have e3 : (astep cd (pc, h, em, n, stk, loc, mem, out)).2.2.1 ≤ em + 1 := aeff_em _ _ _ _ _ _ _
        generalize hst : astep cd (pc, h, em, n, stk, loc, mem, out) = a' at *
        obtain ⟨pc', h', em', n', stk', loc', mem', out'⟩ := a'
        dsimp only at e1 e2 e3
        rw [show (Int32.ofNat i + 1 : Int32) = Int32.ofNat (i + 1) from n_add i 1]
        exact ih (i + 1) pc' h' em' n' stk' loc' mem' out' (by omega) e2 e1 (by omega) K
      · have : afol cd g (k + 1) i (pc, h, em, n, stk, loc, mem, out) = (i, (pc, h, em, n, stk, loc, mem, out)) := by
          unfold afol
          rw [if_pos (Or.inr hch)]
        rw [this] at K
        exact K
theorem c9_follow_b {F : Int32 → zm → Prop} (hc : sA s 1032 = cd) (V : aV m cd H) (A : aPath cd len ad g) {b : Nat} (hg : ∀ i, i < len → sA s 1055 (b + i) = g i) (hb : b + len ≤ 3072) (hl48 : len ≤ 48)
    {pc h em : Nat} {n : Int64} {stk loc mem out : Nat → Int32} (hpc : pc = ad 0) (hh : H pc = some h) (hem : em + len < 2000000000)
    (k : F (Int32.ofNat (afol cd g len 0 (pc, h, em, n, stk, loc, mem, out)).1) (putM c (tL s 14 (sL s 14 + (Int32.ofNat (afol cd g len 0 (pc, h, em, n, stk, loc, mem, out)).1).toInt64)) (afol cd g len 0 (pc, h, em, n, stk, loc, mem, out)).2)) :
    zGo (d + 3) m_X9_follow 0 [.ref 1031, .ref 1054, .ref 1055, .int (Int32.ofNat b), .int (Int32.ofNat len), zJ] [] (yz (putM c s (pc, h, em, n, stk, loc, mem, out))) (zKi F) :=
  B_X9_follow_b_0 _ _ (c9_follow_b_at hc V A hg hb hl48 len 0 pc h em n stk loc mem out (by omega) hpc hh hem k)
end FOM
