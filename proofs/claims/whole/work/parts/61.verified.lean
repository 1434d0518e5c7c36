/-! words with nothing wrong have heights -/
def vsub (H H' : Nat → Option Nat) : Prop := ∀ a h, H a = some h → H' a = some h
def vgood (m : Nat) (cd : Nat → Int32) (a h : Nat) (H : Nat → Option Nat) : Prop := tk (aop cd a) ≤ h ∧ h - tk (aop cd a) + pt (aop cd a) ≤ 16 ∧ (¬ aop cd a = 0 → ¬ aop cd a = 21 → H (a + 1) = some (h - tk (aop cd a) + pt (aop cd a))) ∧ ((aop cd a = 21 ∨ aop cd a = 22 ∨ aop cd a = 23) → H (aarg cd a).toNatClampNeg = some (h - tk (aop cd a) + pt (aop cd a)))
theorem vgood.sub {m : Nat} {cd : Nat → Int32} {a h : Nat} {H H' : Nat → Option Nat} (g : vgood m cd a h H) (s : vsub H H') : vgood m cd a h H' := ⟨g.1, g.2.1, fun e1 e2 => s _ _ (g.2.2.1 e1 e2), fun e => s _ _ (g.2.2.2 e)⟩
theorem vreach_ok {m x b : Nat} {H : Nat → Option Nat} (h : (vreach m x b H).1 = 0) : vsub H (vreach m x b H).2 ∧ (vreach m x b H).2 x = some b ∧ x < m ∧ ((∀ a h, H a = some h → a < m) → ∀ a h, (vreach m x b H).2 a = some h → a < m) := by
  unfold vreach at h ⊢
  by_cases e : x < m
  · rw [if_pos e] at h ⊢
    have main : (H x = none ∨ H x = some b) → vsub H (vput H x b) ∧ vput H x b x = some b ∧ x < m ∧ ((∀ a h, H a = some h → a < m) → ∀ a h, vput H x b a = some h → a < m) := by
      intro q
      refine ⟨fun a h9 h1 => ?_, by unfold vput; rw [if_pos rfl], e, fun hl a h9 h1 => ?_⟩
      · unfold vput
        by_cases z : a = x
        · rw [if_pos z]
          subst z
          rcases q with q | q
          · rw [q] at h1; cases h1
          · rw [q] at h1; exact h1
        · rw [if_neg z]; exact h1
      · unfold vput at h1
        by_cases z : a = x
        · omega
        · rw [if_neg z] at h1
          exact hl a h9 h1
    cases hq : H x with
    | none => exact main (Or.inl hq)
    | some h9 =>
      rw [hq] at h
      dsimp only at h ⊢
      by_cases z : h9 = b
      · rw [if_pos z]
        exact main (Or.inr (by rw [hq, z]))
      · rw [if_neg z] at h
        cases h
  · rw [if_neg e] at h
    cases h
theorem vlook_ok {m : Nat} {cd : Nat → Int32} {a h : Nat} {H : Nat → Option Nat} (h0 : (vlook m cd a h H).1 = 0) : vsub H (vlook m cd a h H).2 ∧ vgood m cd a h (vlook m cd a h H).2 ∧ ((∀ a h, H a = some h → a < m) → ∀ a' h', (vlook m cd a h H).2 a' = some h' → a' < m) := by
  unfold vlook at h0 ⊢
  by_cases e1 : h < tk (aop cd a)
  · rw [if_pos e1] at h0
    cases h0
  · rw [if_neg e1] at h0 ⊢
    by_cases e2 : 16 < h - tk (aop cd a) + pt (aop cd a)
    · rw [if_pos e2] at h0
      cases h0
    · rw [if_neg e2] at h0 ⊢
      have first : ∀ r : Nat × (Nat → Option Nat), r = (if aop cd a = 0 ∨ aop cd a = 21 then (0, H) else vreach m (a + 1) (h - tk (aop cd a) + pt (aop cd a)) H) → r.1 = 0 → vsub H r.2 ∧ (¬ aop cd a = 0 → ¬ aop cd a = 21 → r.2 (a + 1) = some (h - tk (aop cd a) + pt (aop cd a))) ∧ ((∀ a h, H a = some h → a < m) → ∀ a' h', r.2 a' = some h' → a' < m) := by
        intro r hr h1
        by_cases q : aop cd a = 0 ∨ aop cd a = 21
        · rw [if_pos q] at hr
          subst hr
          exact ⟨fun _ _ z => z, fun z1 z2 => absurd q (fun z => z.elim z1 z2), fun z => z⟩
        · rw [if_neg q] at hr
          subst hr
          obtain ⟨g1, g2, g3, g4⟩ := vreach_ok h1
          exact ⟨g1, fun _ _ => g2, g4⟩
      generalize hr : (if aop cd a = 0 ∨ aop cd a = 21 then (0, H) else vreach m (a + 1) (h - tk (aop cd a) + pt (aop cd a)) H) = r at h0 ⊢
      dsimp only at h0 ⊢
      by_cases q : r.1 = 0 ∧ (aop cd a = 21 ∨ aop cd a = 22 ∨ aop cd a = 23)
      · rw [if_pos q] at h0 ⊢
        obtain ⟨f1, f2, f3⟩ := first r hr.symm q.1
        obtain ⟨g1, g2, g3, g4⟩ := vreach_ok h0
        refine ⟨fun a' h' z => g1 _ _ (f1 _ _ z), ⟨by omega, by omega, fun z1 z2 => g1 _ _ (f2 z1 z2), fun _ => g2⟩, fun z => g4 (f3 z)⟩
      · rw [if_neg q] at h0 ⊢
        obtain ⟨f1, f2, f3⟩ := first r hr.symm h0
        refine ⟨f1, ⟨by omega, by omega, f2, fun z => absurd ⟨h0, z⟩ q⟩, f3⟩
theorem vloop_aV {m : Nat} {cd : Nat → Int32} (hm0 : 0 < m) (hm : m ≤ 200) (hw : ∀ a, a < m → vword m cd a = 0) : ∀ (k : Nat) (H : Nat → Option Nat) (D : Nat → Bool), vcnt D m ≤ k → H 0 = some 0 → vbd H → (∀ a h, H a = some h → a < m) → (∀ a h, a < m → D a = true → H a = some h → vgood m cd a h H) → (∀ a, D a = true → (H a).isSome = true) → (vloop m cd k H D).1 = 0 → ∃ H', aV m cd H' := by
  have done : ∀ (H : Nat → Option Nat) (D : Nat → Bool), H 0 = some 0 → vbd H → (∀ a h, H a = some h → a < m) → (∀ a h, a < m → D a = true → H a = some h → vgood m cd a h H) → (∀ a, a < m → (H a).isSome = true → D a = true) → ∃ H', aV m cd H' := by
    intro H D h0 hb hl hg hd
    refine ⟨H, hm0, hm, h0, fun a h hh => ?_⟩
    have ha := hl a h hh
    have hD := hd a ha (by rw [hh]; rfl)
    obtain ⟨g1, g2, g3, g4⟩ := hg a h ha hD hh
    have hwa := hw a ha
    unfold vword at hwa
    by_cases e26 : 26 < aop cd a
    · rw [if_pos e26] at hwa
      omega
    · rw [if_neg e26] at hwa
      refine ⟨ha, by omega, hb _ _ hh, g1, g2, fun q => ?_, fun q => ?_, fun e1 e2 => g3 e2 e1⟩
      · by_cases e : aarg cd a < 0 ∨ 16 ≤ (aarg cd a).toNatClampNeg
        · rw [if_pos (Or.inl ⟨q, e⟩)] at hwa
          omega
        · obtain ⟨n, n1, n2⟩ := n_of (fun z => e (Or.inl z))
          refine ⟨n, ?_, n2⟩
          rw [n2, n_cl n1] at e
          have : ¬ 16 ≤ n := fun z => e (Or.inr z)
          omega
      · by_cases e : aarg cd a < 0 ∨ m ≤ (aarg cd a).toNatClampNeg
        · rw [if_pos (Or.inr ⟨q, e⟩)] at hwa
          omega
        · obtain ⟨n, n1, n2⟩ := n_of (fun z => e (Or.inl z))
          have g5 := g4 q
          rw [n2, n_cl n1] at e g5
          have : ¬ m ≤ n := fun z => e (Or.inr z)
          exact ⟨n, by omega, n2, g5⟩
  intro k
  induction k with
  | zero =>
    intro H D hc h0 hb hl hg hi _
    exact done H D h0 hb hl hg (fun a ha _ => vcnt_zero (by omega) a ha)
  | succ k ih =>
    intro H D hc h0 hb hl hg hi hz
    cases hv : vfind (vto H D) m 0 with
    | none =>
      refine done H D h0 hb hl hg (fun a ha hs => ?_)
      have := vfind_none hv a (by omega) (by omega)
      unfold vto at this
      rw [hs] at this
      cases hd : D a with
      | true => rfl
      | false => rw [hd] at this; cases this
    | some a =>
      obtain ⟨q1, q2, q3, q4⟩ := vfind_some hv
      have ha : a < m := by omega
      have hD : D a = false := by
        cases hd : D a with
        | false => rfl
        | true => rw [vto_false hd] at q3; cases q3
      obtain ⟨h, hh⟩ : ∃ h, H a = some h := by
        unfold vto at q3
        cases hq : H a with
        | none => rw [hq] at q3; cases q3
        | some h => exact ⟨h, rfl⟩
      rw [vloop_some hv hh] at hz
      by_cases e : (vlook m cd a h H).1 = 0
      · rw [vfin_yes e] at hz
        obtain ⟨o1, o2, o3⟩ := vlook_ok e
        have hcd := vcnt_do ha hD
        refine ih _ _ (by omega) (o1 _ _ h0) (vlook_bd hb) (o3 hl) ?_ ?_ hz
        · intro a' h' ha' hd' hh'
          unfold vdo at hd'
          by_cases z : a' = a
          · subst z
            have := o1 _ _ hh
            rw [this] at hh'
            cases hh'
            exact o2
          · rw [if_neg z] at hd'
            have hs := hi a' hd'
            cases hq : H a' with
            | none => rw [hq] at hs; cases hs
            | some h9 =>
              have := o1 _ _ hq
              rw [this] at hh'
              cases hh'
              exact (hg a' h' ha' hd' hq).sub o1
        · intro a' hd'
          unfold vdo at hd'
          by_cases z : a' = a
          · subst z
            rw [o1 _ _ hh]
            rfl
          · rw [if_neg z] at hd'
            have hs := hi a' hd'
            cases hq : H a' with
            | none => rw [hq] at hs; cases hs
            | some h9 => rw [o1 _ _ hq]; rfl
      · rw [vfin_no e] at hz
        exact absurd hz e
theorem vfault_aV {m : Nat} {cd : Nat → Int32} (hm : m ≤ 200) (h : (vfault m cd).1 = 0) : ∃ H, aV m cd H := by
  unfold vfault at h
  by_cases e : (vwords m cd m 0).1 = 0
  · rw [if_pos e] at h
    obtain ⟨z1, z2⟩ := vwords_zero _ _ e
    by_cases e0 : m = 0
    · rw [if_pos e0] at h
      cases h
    · rw [if_neg e0] at h
      refine vloop_aV (by omega) hm (fun a ha => z2 a (by omega) (by omega)) m vH0 (fun _ => false) (vcnt_le m) rfl ?_ ?_ (fun a h _ q => by cases q) (fun a q => by cases q) h
      · intro a h q
        unfold vH0 at q
        by_cases e9 : a = 0
        · rw [if_pos e9] at q
          cases q
          omega
        · rw [if_neg e9] at q
          cases q
      · intro a h q
        unfold vH0 at q
        by_cases e9 : a = 0
        · omega
        · rw [if_neg e9] at q
          cases q
  · rw [if_neg e] at h
    exact absurd h e
theorem vfault_lt {m : Nat} {cd : Nat → Int32} : (vfault m cd).1 < 100 := by
  have hw : ∀ k a, (vwords m cd k a).1 < 100 := by
    intro k
    induction k with
    | zero => intro a; show 0 < 100; omega
    | succ k ih =>
      intro a
      unfold vwords
      split
      · exact ih _
      · show vword m cd a < 100
        unfold vword
        split
        · omega
        · split <;> omega
  have hl : ∀ k H D, (vloop m cd k H D).1 < 100 := by
    intro k
    induction k with
    | zero => intro H D; show 0 < 100; omega
    | succ k ih =>
      intro H D
      cases hv : vfind (vto H D) m 0 with
      | none => rw [vloop_none hv]; show 0 < 100; omega
      | some a =>
        unfold vloop
        rw [hv]
        dsimp only
        split
        · exact ih _ _
        · exact vlook_le
  unfold vfault
  split
  · split
    · show 6 < 100
      omega
    · exact hl _ _ _
  · exact hw _ _
