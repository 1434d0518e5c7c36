/-! the class verifies: the heights -/
theorem vloop_zero {m : Nat} {cd : Nat → Int32} : ∀ (k : Nat) (H : Nat → Option Nat) (D : Nat → Bool), (vloop m cd k H D).1 = 0 → (vloop m cd k H D).2 = -1 := by
  intro k
  induction k with
  | zero => intro H D _; rfl
  | succ k ih =>
    intro H D h
    unfold vloop at h ⊢
    cases hf : vfind (vto H D) m 0 with
    | none => rfl
    | some a =>
      rw [hf] at h
      dsimp only at h ⊢
      by_cases e : (vlook m cd a ((H a).getD 0) H).1 = 0
      · rw [if_pos e] at h ⊢
        exact ih _ _ h
      · rw [if_neg e] at h
        exact absurd h e
theorem vwords_zero {m : Nat} {cd : Nat → Int32} : ∀ (k a : Nat), (vwords m cd k a).1 = 0 → (vwords m cd k a).2 = -1 ∧ ∀ c, a ≤ c → c < a + k → vword m cd c = 0 := by
  intro k
  induction k with
  | zero => intro a _; exact ⟨rfl, fun c h1 h2 => by omega⟩
  | succ k ih =>
    intro a h
    unfold vwords at h ⊢
    by_cases e : vword m cd a = 0
    · rw [if_pos e] at h ⊢
      obtain ⟨h1, h2⟩ := ih _ h
      refine ⟨h1, fun c c1 c2 => ?_⟩
      by_cases q : c = a
      · rw [q]; exact e
      · exact h2 c (by omega) (by omega)
    · rw [if_neg e] at h
      exact absurd h e
theorem vreach_other {m x b : Nat} {H : Nat → Option Nat} {c : Nat} (h : c ≠ x) : (vreach m x b H).2 c = H c := by
  unfold vreach
  split
  · split
    · show vput H x b c = H c
      unfold vput
      rw [if_neg h]
    · split
      · show vput H x b c = H c
        unfold vput
        rw [if_neg h]
      · rfl
  · rfl
theorem vlook_other {m : Nat} {cd : Nat → Int32} {a h : Nat} {H : Nat → Option Nat} {c : Nat} (h1 : c ≠ a + 1) (h2 : (aop cd a = 21 ∨ aop cd a = 22 ∨ aop cd a = 23) → c ≠ (aarg cd a).toNatClampNeg) : (vlook m cd a h H).2 c = H c := by
  unfold vlook
  split
  · rfl
  · split
    · rfl
    · have e : (if aop cd a = 0 ∨ aop cd a = 21 then (0, H) else vreach m (a + 1) (h - tk (aop cd a) + pt (aop cd a)) H).2 c = H c := by
        split
        · rfl
        · exact vreach_other h1
      generalize (if aop cd a = 0 ∨ aop cd a = 21 then (0, H) else vreach m (a + 1) (h - tk (aop cd a) + pt (aop cd a)) H) = r at e
      dsimp only
      by_cases q : r.1 = 0 ∧ (aop cd a = 21 ∨ aop cd a = 22 ∨ aop cd a = 23)
      · rw [if_pos q, vreach_other (h2 q.2), e]
      · rw [if_neg q, e]
theorem vlook_le {m : Nat} {cd : Nat → Int32} {a h : Nat} {H : Nat → Option Nat} : (vlook m cd a h H).1 < 100 := by
  have hr : ∀ x b H, (vreach m x b H).1 < 100 := by
    intro x b H
    unfold vreach
    split
    · split
      · show 0 < 100
        omega
      · split
        · show 0 < 100
          omega
        · show 5 < 100
          omega
    · show 6 < 100
      omega
  unfold vlook
  split
  · show 3 < 100
    omega
  · split
    · show 4 < 100
      omega
    · have e : (if aop cd a = 0 ∨ aop cd a = 21 then (0, H) else vreach m (a + 1) (h - tk (aop cd a) + pt (aop cd a)) H).1 < 100 := by
        split
        · show 0 < 100
          omega
        · exact hr _ _ _
      generalize (if aop cd a = 0 ∨ aop cd a = 21 then (0, H) else vreach m (a + 1) (h - tk (aop cd a) + pt (aop cd a)) H) = r at e
      dsimp only
      by_cases q : r.1 = 0 ∧ (aop cd a = 21 ∨ aop cd a = 22 ∨ aop cd a = 23)
      · rw [if_pos q]
        exact hr _ _ _
      · rw [if_neg q]
        exact e
section VD
variable {d : Nat} {w : zm} {m : Nat} {cd : Nat → Int32}
def vov (o : Option Nat) : Int32 := match o with
  | none => -1
  | some a => Int32.ofNat a
theorem c0_least {F : Int32 → zm → Prop} (C : yCd w m cd) {f g : Nat → Int32} {pl : Int32} {H : Nat → Option Nat} {D : Nat → Bool} (hf : vrow m f H) (hg : vrowD m g D) (hH : vbd H) (a1 : Int32) :
    ∀ (j i : Nat), i + j = m → F (vov (vfind (vto H D) j i)) (vw w f g pl) → zGo d m_X0_leastToLookAt 10 [.ref 1003, .int a1, .int (Int32.ofNat i)] [] (yz (vw w f g pl)) (zKi F) := by
  have hm := C.1
  intro j
  induction j with
  | zero =>
    intro i hi k
    refine B_X0_leastToLookAt_10 _ _ ?_
    simp (disch := omega) only [qv_c, C.2.1, n_lt]
    exact ⟨fun c => absurd c (by omega), fun _ => k⟩
  | succ j ih =>
    intro i hi k
    refine B_X0_leastToLookAt_10 _ _ ?_
    simp (disch := omega) only [qv_c, C.2.1, n_lt, n_lit 200, n_cl, qv_f, qv_g, hf i (by omega), hg i (by omega)]
    refine ⟨fun _ => ⟨fun _ => ⟨n_in (by omega) (by decide), ?_⟩, fun c => absurd (by omega) c⟩, fun c => absurd (by omega) c⟩
    rw [show (Int32.ofNat i + 1 : Int32) = Int32.ofNat (i + 1) from n_add i 1]
    unfold vfind at k
    cases hq : H i with
    | none =>
      have : vto H D i = false := by unfold vto; rw [hq]; rfl
      rw [if_neg (by rw [this]; decide)] at k
      exact ⟨fun _ => ih (i + 1) (by omega) k, fun c => absurd rfl c⟩
    | some h9 =>
      have h16 := hH _ _ hq
      dsimp only [vhv]
      refine ⟨fun c => absurd c (by rw [n_m1 (by omega)]; exact id), fun _ => ⟨n_in (by omega) (by decide), ?_⟩⟩
      cases hd : D i with
      | false =>
        have : vto H D i = true := by unfold vto; rw [hq, hd]; rfl
        rw [if_pos this] at k
        exact ⟨fun _ => k, fun c => absurd rfl c⟩
      | true =>
        have : vto H D i = false := by unfold vto; rw [hq, hd]; rfl
        rw [if_neg (by rw [this]; decide)] at k
        exact ⟨fun c => absurd c (by decide), fun _ => ih (i + 1) (by omega) k⟩
set_option maxHeartbeats 1000000 in
theorem c0_heights {F : Int32 → zm → Prop} (C : yCd w m cd) (hT : ∀ o, o ≤ 26 → yA w 1 o = Int32.ofNat (tk o) ∧ yA w 2 o = Int32.ofNat (pt o)) (hw : ∀ a, a < m → vword m cd a = 0) :
    ∀ (j i fr : Nat) (H : Nat → Option Nat) (D : Nat → Bool) (f g : Nat → Int32) (u3 u4 : Value), i + j = m → fr ≤ m → zisL u3 = false → zisL u4 = false → vrow m f H → vrowD m g D → vbd H → (∀ c, c < fr → vto H D c = false) →
      (∀ f g, F (Int32.ofNat (vloop m cd j H D).1) (vw w f g (vloop m cd j H D).2)) →
      zGo (d + 4) m_X0_findFaultOfHeights 42 [.ref 1003, .int (Int32.ofNat fr), .int (Int32.ofNat i), u3, u4] [] (yz (vw w f g (-1))) (zKi F) := by
  have hm := C.1
  have C' : ∀ f g pl, yCd (vw w f g pl) m cd := fun _ _ _ => C
  intro j
  induction j with
  | zero =>
    intro i fr H D f g u3 u4 hi hfr n3 n4 hf hg hH hlow k
    refine B_X0_findFaultOfHeights_42 _ _ _ _ n3 n4 ?_
    simp (disch := omega) only [qv_c, C.2.1, n_lt]
    exact ⟨fun c => absurd c (by omega), fun _ => k f g⟩
  | succ j ih =>
    intro i fr H D f g u3 u4 hi hfr n3 n4 hf hg hH hlow k
    refine B_X0_findFaultOfHeights_42 _ _ _ _ n3 n4 ?_
    simp (disch := omega) only [qv_c, C.2.1, n_lt]
    refine ⟨fun _ => ?_, fun c => absurd (by omega) c⟩
    refine B_X0_leastToLookAt_0 _ ⟨fun c => absurd c (by rw [n_neg (by omega)]; exact id), fun _ => ?_⟩
    refine c0_least C hf hg hH _ (m - fr) fr (by omega) ?_
    have hsk : vfind (vto H D) m 0 = vfind (vto H D) (m - fr) fr := by
      have := vfind_skip (P := vto H D) fr (m - fr) 0 (fun c _ h2 => hlow c (by omega))
      rw [show fr + (m - fr) = m from by omega, Nat.zero_add] at this
      exact this
    rw [← hsk]
    unfold vloop at k
    cases hv : vfind (vto H D) m 0 with
    | none =>
      rw [hv] at k
      exact ⟨fun _ => k f g, fun c => absurd rfl c⟩
    | some a =>
      rw [hv] at k
      obtain ⟨q1, q2, q3, q4⟩ := vfind_some hv
      have ha : a < m := by omega
      obtain ⟨h, hh⟩ : ∃ h, H a = some h := by
        unfold vto at q3
        cases hq : H a with
        | none => rw [hq] at q3; cases q3
        | some h => exact ⟨h, rfl⟩
      dsimp only at k
      rw [hh] at k
      dsimp only [vov, Option.getD_some] at k ⊢
      refine ⟨fun c => absurd c (by rw [n_m1 (by omega)]; exact id), fun _ => ⟨n_in (by omega) (by decide), ?_⟩⟩
      rw [n_cl (by omega), vw_gA]
      refine c0_lookAt C hT hf hH ha hh (hw a ha) (fun f' hf' => ?_)
      have hlt := vlook_le (m := m) (cd := cd) (a := a) (h := h) (H := H)
      rw [show ((Int32.ofNat (vlook m cd a h H).1 = 0) = ((vlook m cd a h H).1 = 0)) from n_eq (by omega) (by decide)]
      refine ⟨fun z => ?_, fun z => ?_⟩
      · rw [if_pos z] at k
        refine c0_op (C' _ _ _) ha ?_
        rw [(aop_eq cd a).1]
        have hle := (aop_eq cd a).2
        refine c8_isJump (by omega) ?_
        rw [show (Int32.ofNat i + 1 : Int32) = Int32.ofNat (i + 1) from n_add i 1]
        have low : ∀ c, c ≤ a → ((aop cd a = 21 ∨ aop cd a = 22 ∨ aop cd a = 23) → c ≠ (aarg cd a).toNatClampNeg) → vto (vlook m cd a h H).2 (vdo D a) c = false := by
          intro c c1 c2
          unfold vto vdo
          by_cases e : c = a
          · rw [if_pos e]
            cases ((vlook m cd a h H).2 c).isSome <;> rfl
          · rw [if_neg e, vlook_other (by omega) c2]
            exact q4 c (by omega) (by omega)
        by_cases q : aop cd a = 21 ∨ aop cd a = 22 ∨ aop cd a = 23
        · rw [if_pos q]
          refine ⟨fun c => absurd c (by decide), fun _ => c0_arg (C' _ _ _) ha ?_⟩
          obtain ⟨x, x1, x2⟩ : ∃ x, x < m ∧ aarg cd a = Int32.ofNat x := by
            have hwa := hw a ha
            unfold vword at hwa
            by_cases e26 : 26 < aop cd a
            · rw [if_pos e26] at hwa
              omega
            · rw [if_neg e26] at hwa
              by_cases e : aarg cd a < 0 ∨ m ≤ (aarg cd a).toNatClampNeg
              · rw [if_pos (Or.inr ⟨q, e⟩)] at hwa
                omega
              · obtain ⟨n, n1, n2⟩ := n_of (fun z => e (Or.inl z))
                refine ⟨n, ?_, n2⟩
                rw [n2, n_cl n1] at e
                have : ¬ m ≤ n := fun z => e (Or.inr z)
                omega
          have x2' : cd a >>> 6 = Int32.ofNat x := x2
          rw [x2']
          have hmin : (if Int32.ofNat x < Int32.ofNat a + 1 then Int32.ofNat x else Int32.ofNat a + 1) = Int32.ofNat (min x (a + 1)) := by
            have e9 : (Int32.ofNat a + 1 : Int32) = Int32.ofNat (a + 1) := n_add a 1
            by_cases e : x < a + 1
            · rw [if_pos (by rw [e9, n_lt (by omega) (by omega)]; exact e), Nat.min_eq_left (by omega)]
            · rw [if_neg (by rw [e9, n_lt (by omega) (by omega)]; exact e), Nat.min_eq_right (by omega), e9]
          show zGo (d + 4) m_X0_findFaultOfHeights 42 [.ref 1003, .int (if Int32.ofNat x < Int32.ofNat a + 1 then Int32.ofNat x else Int32.ofNat a + 1), .int (Int32.ofNat (i + 1)), .int (Int32.ofNat a), .int (Int32.ofNat (vlook m cd a h H).1)] [] (yz (vw w f' (upd g a 1) (-1))) (zKi F)
          rw [hmin]
          refine ih (i + 1) (min x (a + 1)) _ _ _ _ _ _ (by omega) (by omega) rfl rfl hf' (hg.put a) (vlook_bd hH) (fun c hc => low c (by omega) (fun _ e => ?_)) k
          rw [x2, n_cl (by omega)] at e
          omega
        · rw [if_neg q]
          refine ⟨fun _ => ?_, fun c => absurd rfl c⟩
          rw [show (Int32.ofNat a + 1 : Int32) = Int32.ofNat (a + 1) from n_add a 1]
          exact ih (i + 1) (a + 1) _ _ _ _ _ _ (by omega) (by omega) rfl rfl hf' (hg.put a) (vlook_bd hH) (fun c hc => low c (by omega) (fun e => absurd e q)) k
      · rw [if_neg z] at k
        rw [vw_p]
        exact k _ _
theorem c0_findFault {F : Int32 → zm → Prop} (C : yCd w m cd) (hT : ∀ o, o ≤ 26 → yA w 1 o = Int32.ofNat (tk o) ∧ yA w 2 o = Int32.ofNat (pt o)) (k : ∀ f g, F (Int32.ofNat (vfault m cd).1) (vw w f g (vfault m cd).2)) : zGo (d + 5) m_X0_findFault 0 [.ref 1003, zJ] [] (yz w) (zKi F) := by
  have hm := C.1
  refine B_X0_findFault_0 ?_
  have e0 : yuI w 1003 4 (-1) = vw w (yA w 1005) (yA w 1006) (-1) := by
    conv => lhs; rw [vw_id w]
    rw [vw_p]
  rw [e0]
  have C' : ∀ f g pl, yCd (vw w f g pl) m cd := fun _ _ _ => C
  refine B_X0_findFaultOfWords_0 (c0_words (d := d + 1) (C' _ _ _) m 0 _ (by omega) rfl ?_ ?_)
  · intro z
    obtain ⟨z1, z2⟩ := vwords_zero _ _ z
    unfold vfault at k
    rw [if_pos z] at k
    refine ⟨fun _ => ?_, fun c => absurd rfl c⟩
    refine B_X0_findFaultOfHeights_0 ?_
    simp only [qv_c, C.2.1]
    rw [show ((Int32.ofNat m = 0) = (m = 0)) from n_eq (by omega) (by decide)]
    refine ⟨fun e => ?_, fun e => ?_⟩
    · rw [if_pos e] at k
      rw [vw_p]
      exact k _ _
    · rw [if_neg e] at k
      refine c7_fill (n := 200) _ rfl rfl (by omega) ?_
      rw [vw_f]
      refine c7_fill (n := 200) _ rfl rfl (by omega) ?_
      rw [vw_g, show (Int32.toNatClampNeg 0) = 0 from rfl, vw_fA]
      refine c0_heights C hT (fun a ha => z2 a (by omega) (by omega)) m 0 0 vH0 (fun _ => false) _ _ _ _ (by omega) (by omega) rfl rfl ?_ ?_ ?_ (fun c hc => absurd hc (by omega)) k
      · intro a ha
        unfold vH0
        by_cases q : a = 0
        · rw [q, upd_same, if_pos rfl]
          rfl
        · rw [upd_ne _ _ q, if_neg q]
          show (if a < 200 then -1 else _) = _
          rw [if_pos (by omega)]
          rfl
      · intro a ha
        show (if a < 200 then (0 : Int32) else _) = _
        rw [if_pos (by omega)]
        rfl
      · intro a h q
        unfold vH0 at q
        by_cases e9 : a = 0
        · rw [if_pos e9] at q
          cases q
          omega
        · rw [if_neg e9] at q
          cases q
  · intro z
    unfold vfault at k
    rw [if_neg z] at k
    have hlt : (vwords m cd m 0).1 < 100 := by
      have : ∀ k a, (vwords m cd k a).1 < 100 := by
        intro k
        induction k with
        | zero => intro a; show 0 < 100; omega
        | succ k ih =>
          intro a
          unfold vwords
          split
          · exact ih _
          · show vword m cd a < 100
            unfold vword
            split
            · omega
            · split <;> omega
      exact this _ _
    refine ⟨fun c => absurd c (by rw [show ((Int32.ofNat (vwords m cd m 0).1 = 0) = ((vwords m cd m 0).1 = 0)) from n_eq (by omega) (by decide)]; exact z), fun _ => ?_⟩
    rw [vw_p]
    exact k _ _
end VD
