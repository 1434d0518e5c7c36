/-! the model verifies -/
def vs (s : ms) (f g : Nat → Int32) (pl : Int32) : ms := tA (tA (tI s 5 pl) 1061 f) 1062 g
theorem tA_over (s : ms) (p : Nat) (f g : Nat → Int32) : tA (tA s p f) p g = tA s p g := by
  unfold tA
  dsimp only
  rw [y1_over]
theorem tA_comm (s : ms) {p q : Nat} (f g : Nat → Int32) (h : p ≠ q) : tA (tA s p f) q g = tA (tA s q g) p f := by
  unfold tA
  dsimp only
  rw [y1_comm _ _ _ h]
theorem tA_id (s : ms) (p : Nat) : tA s p (sA s p) = s := by
  unfold tA sA
  rw [y1_id]
theorem tI_over (s : ms) (b : Nat) (v v' : Int32) : tI (tI s b v) b v' = tI s b v' := by
  unfold tI
  dsimp only
  rw [y1_over]
theorem tI_comm (s : ms) {b b' : Nat} (v v' : Int32) (h : b ≠ b') : tI (tI s b v) b' v' = tI (tI s b' v') b v := by
  unfold tI
  dsimp only
  rw [y1_comm _ _ _ h]
theorem tI_id (s : ms) (b : Nat) : tI s b (sI s b) = s := by
  unfold tI sI
  rw [y1_id]
theorem tI_A (s : ms) (b p : Nat) (v : Int32) (f : Nat → Int32) : tI (tA s p f) b v = tA (tI s b v) p f := rfl
theorem vs_f (c : zm) (s : ms) (f g : Nat → Int32) (pl : Int32) (i : Nat) (x : Int32) : yuA (put c (vs s f g pl)) 1061 i x = put c (vs s (upd f i x) g pl) := by
  rw [p_A _ _ _ _ _ rfl]
  show put c (tA (vs s f g pl) 1061 (upd f i x)) = _
  unfold vs
  rw [tA_comm (p := 1062) (q := 1061) _ _ _ (by decide), tA_over]
theorem vs_g (c : zm) (s : ms) (f g : Nat → Int32) (pl : Int32) (i : Nat) (x : Int32) : yuA (put c (vs s f g pl)) 1062 i x = put c (vs s f (upd g i x) pl) := by
  rw [p_A _ _ _ _ _ rfl]
  show put c (tA (vs s f g pl) 1062 (upd g i x)) = _
  unfold vs
  rw [tA_over]
theorem vs_p (c : zm) (s : ms) (f g : Nat → Int32) (pl pl' : Int32) : yuI (put c (vs s f g pl)) 1031 5 pl' = put c (vs s f g pl') := by
  rw [p_I]
  unfold vs
  rw [tI_A, tI_A, tI_over]
theorem qs_f (c : zm) (s : ms) (f g : Nat → Int32) (pl : Int32) : yA (put c (vs s f g pl)) 1061 = f := rfl
theorem qs_g (c : zm) (s : ms) (f g : Nat → Int32) (pl : Int32) : yA (put c (vs s f g pl)) 1062 = g := rfl
theorem qs_m (c : zm) (s : ms) (f g : Nat → Int32) (pl : Int32) : yI (put c (vs s f g pl)) 1031 3 = sI s 3 := rfl
/-- how many are not done -/
def vcnt (D : Nat → Bool) : Nat → Nat
  | 0 => 0
  | k + 1 => vcnt D k + (if D k = true then 0 else 1)
theorem vcnt_do {D : Nat → Bool} {a : Nat} : ∀ {m : Nat}, a < m → D a = false → vcnt (vdo D a) m + 1 = vcnt D m := by
  have low : ∀ m, m ≤ a → vcnt (vdo D a) m = vcnt D m := by
    intro m
    induction m with
    | zero => intro _; rfl
    | succ k ih =>
      intro h
      unfold vcnt
      rw [ih (by omega)]
      have : vdo D a k = D k := by unfold vdo; rw [if_neg (by omega)]
      rw [this]
  intro m
  induction m with
  | zero => intro h; omega
  | succ k ih =>
    intro h hd
    unfold vcnt
    by_cases e : a = k
    · subst e
      rw [low a (Nat.le_refl _), hd]
      have : vdo D a a = true := by unfold vdo; rw [if_pos rfl]
      rw [this]
      rfl
    · have h1 := ih (by omega) hd
      have : vdo D a k = D k := by unfold vdo; rw [if_neg (by omega)]
      rw [this]
      omega
theorem vcnt_zero {D : Nat → Bool} : ∀ {m : Nat}, vcnt D m = 0 → ∀ a, a < m → D a = true := by
  intro m
  induction m with
  | zero => intro _ a h; omega
  | succ k ih =>
    intro h a ha
    unfold vcnt at h
    have h1 : vcnt D k = 0 := by omega
    by_cases e : a = k
    · subst e
      by_cases q : D a = true
      · exact q
      · rw [if_neg q] at h
        omega
    · exact ih h1 a (by omega)
theorem vcnt_le {D : Nat → Bool} : ∀ m, vcnt D m ≤ m := by
  intro m
  induction m with
  | zero => exact Nat.le_refl _
  | succ k ih =>
    unfold vcnt
    split <;> omega
/-- what comes behind a look -/
def vfin (m : Nat) (cd : Nat → Int32) (j : Nat) (D : Nat → Bool) (a : Nat) (r : Nat × (Nat → Option Nat)) : Nat × Int32 := if r.1 = 0 then vloop m cd j r.2 (vdo D a) else (r.1, Int32.ofNat a)
theorem vloop_some {m : Nat} {cd : Nat → Int32} {j : Nat} {H : Nat → Option Nat} {D : Nat → Bool} {a h : Nat} (hv : vfind (vto H D) m 0 = some a) (hh : H a = some h) : vloop m cd (j + 1) H D = vfin m cd j D a (vlook m cd a h H) := by
  conv => lhs; unfold vloop
  rw [hv]
  unfold vfin
  dsimp only
  rw [hh]
  rfl
theorem vloop_none {m : Nat} {cd : Nat → Int32} {j : Nat} {H : Nat → Option Nat} {D : Nat → Bool} (hv : vfind (vto H D) m 0 = none) : vloop m cd (j + 1) H D = (0, -1) := by
  conv => lhs; unfold vloop
  rw [hv]
theorem vfin_no {m : Nat} {cd : Nat → Int32} {j : Nat} {D : Nat → Bool} {a : Nat} {r : Nat × (Nat → Option Nat)} (h : ¬ r.1 = 0) : vfin m cd j D a r = (r.1, Int32.ofNat a) := by
  unfold vfin
  rw [if_neg h]
theorem vfin_yes {m : Nat} {cd : Nat → Int32} {j : Nat} {D : Nat → Bool} {a : Nat} {r : Nat × (Nat → Option Nat)} (h : r.1 = 0) : vfin m cd j D a r = vloop m cd j r.2 (vdo D a) := by
  unfold vfin
  rw [if_pos h]
theorem vto_false {H : Nat → Option Nat} {D : Nat → Bool} {a : Nat} (h : D a = true) : vto H D a = false := by
  unfold vto
  rw [h]
  cases (H a).isSome <;> rfl
section VM
variable {d : Nat} {c : zm} {s : ms} {m : Nat} {cd : Nat → Int32}
theorem c9_takes {w : zm} {F : Int32 → zm → Prop} {o : Nat} (ho : o < 2147483648) (k : F (Int32.ofNat (tk o)) w) : zGo d m_X9_takes 0 [.int (Int32.ofNat o)] [] (yz w) (zKi F) := by
  refine B_X9_takes_0 _ ?_
  have h33 : ¬ (4 ≤ o ∧ o ≤ 15) → ¬ (o = 0 ∨ o = 1 ∨ o = 2 ∨ o = 21) → zGo d m_X9_takes 33 [.int (Int32.ofNat o)] [] (yz w) (zKi F) := by
    intro h1 h2
    refine B_X9_takes_33 _ ?_
    simp (disch := omega) only [n_lit 19, n_lit 26, n_eq]
    unfold tk at k
    rw [if_neg h2] at k
    refine ⟨fun e => ?_, fun e1 => ⟨fun e => ?_, fun e2 => ?_⟩⟩
    · rw [if_pos (by omega)] at k; exact k
    · rw [if_pos (by omega)] at k; exact k
    · rw [if_neg (by omega)] at k; exact k
  simp (disch := omega) only [n_lit 0, n_lit 1, n_lit 2, n_lit 21, n_lit 4, n_lit 15, n_eq, n_lt]
  unfold tk at k
  refine ⟨fun e => ?_, fun e0 => ⟨fun e => ?_, fun e1 => ⟨fun e => ?_, fun e2 => ⟨fun e => ?_, fun e3 => ⟨fun e => h33 (by omega) (by omega), fun e4 => ⟨fun e => h33 (by omega) (by omega), fun e5 => ?_⟩⟩⟩⟩⟩⟩
  · rw [if_pos (by omega)] at k; exact k
  · rw [if_pos (by omega)] at k; exact k
  · rw [if_pos (by omega)] at k; exact k
  · rw [if_pos (by omega)] at k; exact k
  · rw [if_neg (by omega), if_pos (by omega)] at k; exact k
theorem c9_puts {w : zm} {F : Int32 → zm → Prop} {o : Nat} (ho : o < 2147483648) (k : F (Int32.ofNat (pt o)) w) : zGo d m_X9_puts 0 [.int (Int32.ofNat o)] [] (yz w) (zKi F) := by
  refine B_X9_puts_0 _ ?_
  simp (disch := omega) only [n_lit 18, n_lit 19, n_lit 1, n_lit 2, n_lit 4, n_lit 17, n_lit 25, n_eq, n_lt]
  unfold pt at k
  refine ⟨fun e => ?_, fun e0 => ⟨fun e => ?_, fun e1 => ⟨fun e => ?_, fun e2 => ⟨fun e => ?_, fun e3 => ⟨fun e4 => ⟨fun e => ?_, fun e5 => ?_⟩, fun e4 => ⟨fun e5 => ⟨fun e => ?_, fun e6 => ?_⟩, fun e5 => ?_⟩⟩⟩⟩⟩⟩
  · rw [if_pos (by omega)] at k; exact k
  · rw [if_pos (by omega)] at k; exact k
  · rw [if_neg (by omega), if_pos (by omega)] at k; exact k
  · rw [if_neg (by omega), if_pos (by omega)] at k; exact k
  · rw [if_neg (by omega), if_pos (by omega)] at k; exact k
  · rw [if_neg (by omega), if_neg (by omega)] at k; exact k
  · rw [if_neg (by omega), if_pos (by omega)] at k; exact k
  · rw [if_neg (by omega), if_neg (by omega)] at k; exact k
  · rw [if_neg (by omega), if_pos (by omega)] at k; exact k
theorem c9_jumps {w : zm} {F : Int32 → zm → Prop} {o : Nat} (ho : o < 2147483648) (k : F (if o = 21 ∨ o = 22 ∨ o = 23 then 1 else 0) w) : zGo d m_X9_jumps 0 [.int (Int32.ofNat o)] [] (yz w) (zKi F) := by
  refine B_X9_jumps_0 _ ?_
  simp (disch := omega) only [n_lit 21, n_lit 22, n_lit 23, n_eq]
  refine ⟨fun e => ?_, fun e1 => ⟨fun e => ?_, fun e2 => ⟨fun e => ?_, fun e3 => ?_⟩⟩⟩
  · rwa [if_pos (Or.inl e)] at k
  · rwa [if_pos (Or.inr (Or.inl e))] at k
  · rwa [if_pos (Or.inr (Or.inr e))] at k
  · rwa [if_neg (by omega)] at k
theorem c9_in {w : zm} {F : Int32 → zm → Prop} (x : Int32) {n : Nat} (hn : n < 2147483648) (k : F (if x < 0 ∨ n < x.toNatClampNeg then 0 else 1) w) : zGo d m_X9_in 0 [.int x, .int 0, .int (Int32.ofNat n)] [] (yz w) (zKi F) := by
  refine B_X9_in_0 _ _ _ ?_
  by_cases hx : x < 0
  · rw [if_pos (Or.inl hx)] at k
    exact ⟨fun _ => k, fun e => absurd hx e⟩
  · refine ⟨fun e => absurd e hx, fun _ => ?_⟩
    obtain ⟨j, j1, rfl⟩ := n_of hx
    rw [n_cl j1] at k
    rw [n_lt hn j1]
    by_cases e : n < j
    · rw [if_pos (Or.inr e)] at k
      exact ⟨fun _ => k, fun q => absurd e q⟩
    · rw [if_neg (by intro q; rcases q with q | q; exact hx q; exact e q)] at k
      exact ⟨fun q => absurd q e, fun _ => k⟩
set_option maxHeartbeats 1000000 in
theorem c9_heights {F : Int32 → zm → Prop} (hm : m ≤ 200) (hM : sI s 3 = Int32.ofNat m) (hC : sA s 1032 = cd) (hw : ∀ a, a < m → vword m cd a = 0) :
    ∀ (j : Nat) (H : Nat → Option Nat) (D : Nat → Bool) (f g : Nat → Int32) (a1 : Int32) (u2 u3 u4 u5 u6 : Value), vcnt D m ≤ j → zisL u2 = false → zisL u3 = false → zisL u4 = false → zisL u5 = false → zisL u6 = false → vrow m f H → vrowD m g D → vbd H →
      (∀ f g, F (Int32.ofNat (vloop m cd j H D).1) (put c (vs s f g (vloop m cd j H D).2))) →
      zGo (d + 1) m_X9_findHeights 37 [.ref 1031, .int a1, u2, u3, u4, u5, u6] [] (yz (put c (vs s f g (-1)))) (zKi F) := by
  have hC' : ∀ f g pl, yA (put c (vs s f g pl)) 1032 = cd := fun _ _ _ => hC
  -- the search
  have srch : ∀ (H : Nat → Option Nat) (D : Nat → Bool) (f g : Nat → Int32) (u2 u3 u4 u5 u6 : Value), zisL u2 = false → zisL u3 = false → zisL u4 = false → zisL u5 = false → zisL u6 = false → vrow m f H → vrowD m g D → vbd H →
      ∀ (j i : Nat), i + j = m → (zGo (d + 1) m_X9_findHeights 72 [.ref 1031, .int (Int32.ofNat ((vfind (vto H D) j i).getD m)), u2, u3, u4, u5, u6] [] (yz (put c (vs s f g (-1)))) (zKi F)) →
      zGo (d + 1) m_X9_findHeights 39 [.ref 1031, .int (Int32.ofNat i), u2, u3, u4, u5, u6] [] (yz (put c (vs s f g (-1)))) (zKi F) := by
    intro H D f g u2 u3 u4 u5 u6 n2 n3 n4 n5 n6 hf hg hH j
    induction j with
    | zero =>
      intro i hi k
      refine B_X9_findHeights_39 _ _ _ _ _ _ n2 n3 n4 n5 n6 ?_
      simp (disch := omega) only [qs_m, hM, n_lt]
      refine ⟨fun e => absurd e (by omega), fun _ => ?_⟩
      have : i = m := by omega
      rw [this]
      exact k
    | succ j ih =>
      intro i hi k
      refine B_X9_findHeights_39 _ _ _ _ _ _ n2 n3 n4 n5 n6 ?_
      simp (disch := omega) only [qs_m, hM, n_lt, n_cl, qs_f, qs_g, hf i (by omega), hg i (by omega)]
      refine ⟨fun _ => ⟨n_in (by omega) (by decide), ?_⟩, fun e => absurd (by omega) e⟩
      rw [show (Int32.ofNat i + 1 : Int32) = Int32.ofNat (i + 1) from n_add i 1]
      unfold vfind at k
      cases hq : H i with
      | none =>
        have : vto H D i = false := by unfold vto; rw [hq]; rfl
        rw [if_neg (by rw [this]; decide)] at k
        exact ⟨fun _ => ih (i + 1) (by omega) k, fun e => absurd (show (-1 : Int32) < 0 by decide) e⟩
      | some h9 =>
        have h16 := hH _ _ hq
        dsimp only [vhv]
        refine ⟨fun e => absurd e (by rw [n_neg (by omega)]; exact id), fun _ => ⟨n_in (by omega) (by decide), ?_⟩⟩
        cases hd : D i with
        | false =>
          have : vto H D i = true := by unfold vto; rw [hq, hd]; rfl
          rw [if_pos this] at k
          exact ⟨fun e => absurd e (by decide), fun _ => k⟩
        | true =>
          have : vto H D i = false := by unfold vto; rw [hq, hd]; rfl
          rw [if_neg (by rw [this]; decide)] at k
          exact ⟨fun _ => ih (i + 1) (by omega) k, fun e => absurd rfl e⟩
  -- one address reached
  have r207 : ∀ (H : Nat → Option Nat) (f g : Nat → Int32) (a x b i : Nat) (a2 a5 : Int32) (u6 : Value), a < m → x ≤ m → b ≤ 16 → zisL u6 = false → vrow m f H → vbd H →
      (¬ (vreach m x b H).1 = 0 → F (Int32.ofNat (vreach m x b H).1) (put c (vs s f g (Int32.ofNat a)))) →
      ((vreach m x b H).1 = 0 → ∀ f' u6, zisL u6 = false → vrow m f' (vreach m x b H).2 → zGo (d + 1) m_X9_findHeights 148 [.ref 1031, .int (Int32.ofNat a), .int a2, .int (Int32.ofNat b), .int (Int32.ofNat (i + 1)), .int a5, u6] [] (yz (put c (vs s f' g (-1)))) (zKi F)) →
      zGo (d + 1) m_X9_findHeights 207 [.ref 1031, .int (Int32.ofNat a), .int a2, .int (Int32.ofNat b), .int (Int32.ofNat i), .int a5, u6] [.int (Int32.ofNat x)] (yz (put c (vs s f g (-1)))) (zKi F) := by
    intro H f g a x b i a2 a5 u6 ha hx hb n6 hf hH k1 k2
    refine B_X9_findHeights_207 _ _ _ _ _ _ _ n6 ?_
    simp (disch := omega) only [qs_m, hM, n_eq]
    rw [show (Int32.ofNat i + 1 : Int32) = Int32.ofNat (i + 1) from n_add i 1]
    unfold vreach at k1 k2
    refine ⟨fun e => B_X9_at_0 _ _ ?_, fun e => ⟨n_in (by omega) (by decide), ?_⟩⟩
    · rw [if_neg (by omega)] at k1
      rw [vs_p]
      exact k1 (by show ¬ 6 = 0; decide)
    · have hxm : x < m := by omega
      rw [if_pos hxm] at k1 k2
      simp (disch := omega) only [qs_f, n_cl, vs_f, hf x hxm]
      cases hq : H x with
      | none =>
        rw [hq] at k1 k2
        exact ⟨fun _ => ⟨n_in (by omega) (by decide), k2 rfl _ _ rfl (hf.put x b)⟩, fun z => absurd (show (-1 : Int32) < 0 by decide) z⟩
      | some h9 =>
        have h16 := hH _ _ hq
        rw [hq] at k1 k2
        dsimp only [vhv] at k1 k2 ⊢
        refine ⟨fun z => absurd z (by rw [n_neg (by omega)]; exact id), fun _ => ⟨n_in (by omega) (by decide), ?_⟩⟩
        rw [n_eq (by omega) (by omega)]
        by_cases e2 : h9 = b
        · rw [if_pos e2] at k2
          exact ⟨fun _ => ⟨n_in (by omega) (by decide), k2 rfl _ _ rfl (hf.put x b)⟩, fun z => absurd e2 z⟩
        · rw [if_neg e2] at k1
          refine ⟨fun z => absurd z e2, fun _ => B_X9_at_0 _ _ ?_⟩
          rw [vs_p]
          exact k1 (by show ¬ 5 = 0; decide)
  intro j
  induction j with
  | zero =>
    intro H D f g a1 u2 u3 u4 u5 u6 hj n2 n3 n4 n5 n6 hf hg hH k
    refine B_X9_findHeights_37 _ _ _ _ _ _ n2 n3 n4 n5 n6 ?_
    refine srch H D f g _ _ _ _ _ n2 n3 n4 n5 n6 hf hg hH m 0 (by omega) ?_
    have hnone : vfind (vto H D) m 0 = none := by
      cases hv : vfind (vto H D) m 0 with
      | none => rfl
      | some a =>
        obtain ⟨q1, q2, q3, q4⟩ := vfind_some hv
        have := vcnt_zero (D := D) (m := m) (by omega) a (by omega)
        rw [vto_false this] at q3
        cases q3
    rw [hnone]
    refine B_X9_findHeights_72 _ _ _ _ _ _ n2 n3 n4 n5 n6 ?_
    simp only [qs_m, hM]
    exact ⟨fun _ => k _ _, fun e => absurd rfl e⟩
  | succ j ih =>
    intro H D f g a1 u2 u3 u4 u5 u6 hj n2 n3 n4 n5 n6 hf hg hH k
    refine B_X9_findHeights_37 _ _ _ _ _ _ n2 n3 n4 n5 n6 ?_
    refine srch H D f g _ _ _ _ _ n2 n3 n4 n5 n6 hf hg hH m 0 (by omega) ?_
    cases hv : vfind (vto H D) m 0 with
    | none =>
      rw [vloop_none hv] at k
      refine B_X9_findHeights_72 _ _ _ _ _ _ n2 n3 n4 n5 n6 ?_
      simp only [qs_m, hM]
      exact ⟨fun _ => k _ _, fun e => absurd rfl e⟩
    | some a =>
      obtain ⟨q1, q2, q3, q4⟩ := vfind_some hv
      have ha : a < m := by omega
      have hD : D a = false := by
        cases hd : D a with
        | false => rfl
        | true => rw [vto_false hd] at q3; cases q3
      obtain ⟨h, hh⟩ : ∃ h, H a = some h := by
        unfold vto at q3
        cases hq : H a with
        | none => rw [hq] at q3; cases q3
        | some h => exact ⟨h, rfl⟩
      have h16 := hH _ _ hh
      have hcd := vcnt_do ha hD
      rw [vloop_some hv hh] at k
      dsimp only [Option.getD_some]
      have hle := (aop_eq cd a).2
      have ho26 : aop cd a ≤ 26 := by
        have := hw a ha
        unfold vword at this
        by_cases e26 : 26 < aop cd a
        · rw [if_pos e26] at this
          omega
        · omega
      have htk : tk (aop cd a) ≤ 2 := by
        unfold tk
        split
        · omega
        · split <;> omega
      have hpt : pt (aop cd a) ≤ 2 := by
        unfold pt
        split
        · omega
        · split <;> omega
      have hjx : (aop cd a = 21 ∨ aop cd a = 22 ∨ aop cd a = 23) → ∃ x, x < m ∧ aarg cd a = Int32.ofNat x := by
        intro q
        have hwa := hw a ha
        unfold vword at hwa
        rw [if_neg (by omega)] at hwa
        by_cases e : aarg cd a < 0 ∨ m ≤ (aarg cd a).toNatClampNeg
        · rw [if_pos (Or.inr ⟨q, e⟩)] at hwa
          omega
        · obtain ⟨n, n1, n2⟩ := n_of (fun z => e (Or.inl z))
          refine ⟨n, ?_, n2⟩
          rw [n2, n_cl n1] at e
          have : ¬ m ≤ n := fun z => e (Or.inr z)
          omega
      have hfa : f a = Int32.ofNat h := by rw [hf a ha, hh]; rfl
      refine B_X9_findHeights_72 _ _ _ _ _ _ n2 n3 n4 n5 n6 ?_
      simp (disch := omega) only [qs_m, hM, n_eq, n_cl, vs_g]
      refine ⟨fun e => absurd e (by omega), fun _ => ⟨n_in (by omega) (by decide), ?_⟩⟩
      refine c9_op (hC' _ _ _) (by omega) (c9_takes (by omega) ⟨n_in (by omega) (by decide), ?_⟩)
      have hgd := hg.put a
      unfold vlook at k
      generalize hog : aop cd a = o at *
      simp (disch := omega) only [qs_f, hfa, n_lt]
      by_cases e1 : h < tk o
      · rw [if_pos e1] at k
        refine ⟨fun _ => B_X9_at_0 _ _ ?_, fun e => absurd e1 e⟩
        rw [vs_p]
        rw [vfin_no (by show ¬ 3 = 0; decide)] at k
        exact k _ _
      · rw [if_neg e1] at k
        refine ⟨fun e => absurd e e1, fun _ => ⟨n_in (by omega) (by decide), c9_takes (by omega) (c9_puts (by omega) ?_)⟩⟩
        simp (disch := omega) only [n_lit 16, n_sub, n_add, n_lt]
        generalize hbg : h - tk o + pt o = b at *
        by_cases e2 : 16 < b
        · rw [if_pos e2] at k
          refine ⟨fun _ => B_X9_at_0 _ _ ?_, fun e => absurd e2 e⟩
          rw [vs_p]
          rw [vfin_no (by show ¬ 4 = 0; decide)] at k
          exact k _ _
        · rw [if_neg e2] at k
          refine ⟨fun e => absurd e e2, fun _ => ?_⟩
          -- the second of the two, and on to the next
          have go2 : ∀ (f' : Nat → Int32) (a2 a3 a4 : Int32) (u5 u6 : Value) (H' : Nat → Option Nat), zisL u5 = false → zisL u6 = false → vrow m f' H' → vbd H' → vcnt (vdo D a) m ≤ j →
              (∀ f g, F (Int32.ofNat (vloop m cd j H' (vdo D a)).1) (put c (vs s f g (vloop m cd j H' (vdo D a)).2))) → (∀ (f g : Nat → Int32) (a1 : Int32) (u2 u3 u4 u5 u6 : Value), vcnt (vdo D a) m ≤ j → zisL u2 = false → zisL u3 = false → zisL u4 = false → zisL u5 = false → zisL u6 = false → vrow m f H' → vrowD m g (vdo D a) → vbd H' →
      (∀ f g, F (Int32.ofNat (vloop m cd j H' (vdo D a)).1) (put c (vs s f g (vloop m cd j H' (vdo D a)).2))) →
      zGo (d + 1) m_X9_findHeights 37 [.ref 1031, .int a1, u2, u3, u4, u5, u6] [] (yz (put c (vs s f g (-1)))) (zKi F)) → zGo (d + 1) m_X9_findHeights 148 [.ref 1031, .int (Int32.ofNat a), .int a2, .int a3, .int (Int32.ofNat 2), u5, u6] [] (yz (put c (vs s f' (upd g a 1) (-1)))) (zKi F) := by
            intro f' a2 a3 a4 u5 u6 H' m5 m6 hf' hb' hcn kk ihh
            refine B_X9_findHeights_148 _ _ _ _ _ _ m5 m6 ⟨fun e => absurd e (by decide), fun _ => ?_⟩
            exact ihh _ _ _ _ _ _ _ _ hcn rfl rfl rfl m5 m6 hf' hgd hb' kk
          have go1 : ∀ (r : Nat × (Nat → Option Nat)) (f' : Nat → Int32) (u5 u6 : Value), zisL u5 = false → zisL u6 = false → r.1 = 0 → vrow m f' r.2 → vbd r.2 →
              (∀ f g, F (Int32.ofNat (vfin m cd j D a (if r.1 = 0 ∧ (o = 21 ∨ o = 22 ∨ o = 23) then vreach m (aarg cd a).toNatClampNeg b r.2 else r)).1) (put c (vs s f g (vfin m cd j D a (if r.1 = 0 ∧ (o = 21 ∨ o = 22 ∨ o = 23) then vreach m (aarg cd a).toNatClampNeg b r.2 else r)).2))) →
              zGo (d + 1) m_X9_findHeights 148 [.ref 1031, .int (Int32.ofNat a), .int (Int32.ofNat o), .int (Int32.ofNat b), .int (Int32.ofNat 1), u5, u6] [] (yz (put c (vs s f' (upd g a 1) (-1)))) (zKi F) := by
            intro r f' u5 u6 m5 m6 hr hf' hb' kk
            refine B_X9_findHeights_148 _ _ _ _ _ _ m5 m6 ⟨fun _ => ⟨fun e => absurd e (by decide), fun _ => ?_⟩, fun e => absurd (by decide) e⟩
            refine c9_jumps (by omega) ?_
            by_cases q : o = 21 ∨ o = 22 ∨ o = 23
            · rw [if_pos q]
              rw [if_pos ⟨hr, q⟩] at kk
              refine B_X9_findHeights_181 _ _ _ _ _ _ _ m5 m6 ⟨fun e => absurd e (by decide), fun _ => ⟨fun e => absurd e (by decide), fun _ => ?_⟩⟩
              refine c9_arg (hC' _ _ _) (by omega) ?_
              obtain ⟨x, x1, x2⟩ := hjx q
              rw [x2] at kk ⊢
              rw [n_cl (by omega)] at kk
              refine r207 r.2 f' (upd g a 1) a x b 1 _ _ _ ha (by omega) (by omega) m6 hf' hb' ?_ ?_
              · intro z
                rw [vfin_no z] at kk
                exact kk _ _
              · intro z f'' u6' m6' hf''
                rw [vfin_yes z] at kk
                refine go2 f'' _ _ 0 _ _ _ rfl m6' hf'' (vreach_bd hb' (by omega)) (by omega) kk (fun f g a1 u2 u3 u4 u5 u6 z1 z2 z3 z4 z5 z6 z7 z8 z9 z10 => ih _ _ f g a1 u2 u3 u4 u5 u6 z1 z2 z3 z4 z5 z6 z7 z8 z9 z10)
            · rw [if_neg q]
              rw [if_neg (fun e => q e.2), vfin_yes hr] at kk
              refine B_X9_findHeights_181 _ _ _ _ _ _ _ m5 m6 ⟨fun _ => ?_, fun e => absurd rfl e⟩
              refine go2 f' _ _ 0 _ _ _ rfl m6 hf' hb' (by omega) kk (fun f g a1 u2 u3 u4 u5 u6 z1 z2 z3 z4 z5 z6 z7 z8 z9 z10 => ih _ _ f g a1 u2 u3 u4 u5 u6 z1 z2 z3 z4 z5 z6 z7 z8 z9 z10)
          refine B_X9_findHeights_148 _ _ _ _ _ _ n5 n6 ⟨fun _ => ⟨fun _ => ?_, fun e => absurd rfl e⟩, fun e => absurd (by decide) e⟩
          simp (disch := omega) only [n_lit 21, n_eq]
          have hz : (Int32.ofNat o = 0) = (o = 0) := n_eq (by omega) (by decide)
          rw [hz]
          have s0 : (o = 0 ∨ o = 21) → zGo (d + 1) m_X9_findHeights 181 [.ref 1031, .int (Int32.ofNat a), .int (Int32.ofNat o), .int (Int32.ofNat b), .int 0, u5, u6] [.int 0] (yz (put c (vs s f (upd g a 1) (-1)))) (zKi F) := by
            intro z
            rw [if_pos z] at k
            refine B_X9_findHeights_181 _ _ _ _ _ _ _ n5 n6 ⟨fun _ => ?_, fun e => absurd rfl e⟩
            exact go1 (0, H) f _ _ rfl n6 rfl hf hH k
          refine ⟨fun z => s0 (Or.inr z), fun z21 => ⟨fun z => s0 (Or.inl z), fun z0 => ?_⟩⟩
          rw [if_neg (fun e => e.elim z0 z21)] at k
          refine B_X9_findHeights_181 _ _ _ _ _ _ _ n5 n6 ⟨fun e => absurd e (by decide), fun _ => ⟨fun _ => ?_, fun e => absurd rfl e⟩⟩
          rw [show (Int32.ofNat a + 1 : Int32) = Int32.ofNat (a + 1) from n_add a 1]
          refine r207 H f (upd g a 1) a (a + 1) b 0 _ _ _ ha (by omega) (by omega) n6 hf hH ?_ ?_
          · intro z
            dsimp only at k
            rw [if_neg (fun e => z e.1), vfin_no z] at k
            exact k _ _
          · intro z f'' u6' m6' hf''
            exact go1 _ f'' _ _ rfl m6' z hf'' (vreach_bd hH (by omega)) k
theorem c9_judge {F : Int32 → zm → Prop} (hm : m ≤ 200) (hM : sI s 3 = Int32.ofNat m) (hC : sA s 1032 = cd) (h5 : sI s 5 = -1)
    (k : ∀ f g, F (Int32.ofNat (vfault m cd).1) (put c (vs s f g (vfault m cd).2))) : zGo (d + 2) m_X9_judge 0 [.ref 1031, zJ, zJ] [] (yz (put c s)) (zKi F) := by
  have e0 : s = vs s (sA s 1061) (sA s 1062) (-1) := by
    have : vs s (sA s 1061) (sA s 1062) (-1) = tA (tA (tI s 5 (sI s 5)) 1061 (sA s 1061)) 1062 (sA s 1062) := by rw [h5]; rfl
    rw [this, tI_id, tA_id, tA_id]
  have hC' : ∀ f g pl, yA (put c (vs s f g pl)) 1032 = cd := fun _ _ _ => hC
  rw [e0]
  generalize sA s 1061 = f0
  generalize sA s 1062 = g0
  have fin : ∀ (i : Nat) (v : Nat) (a1 : Nat), F (Int32.ofNat v) (put c (vs s f0 g0 (Int32.ofNat a1))) → zGo (d + 1) m_X9_at 0 [.ref 1031, .int (Int32.ofNat v), .int (Int32.ofNat a1)] [] (yz (put c (vs s f0 g0 (-1)))) (zKi fun v4 w3 => F v4 w3) := by
    intro _ v a1 k
    refine B_X9_at_0 _ _ ?_
    rw [vs_p]
    exact k
  have loop : ∀ (j i : Nat) (u : Value), i + j = m → zisL u = false → ((vwords m cd j i).1 = 0 → zGo (d + 2) m_X9_judge 2 [.ref 1031, .int (Int32.ofNat m), zJ] [] (yz (put c (vs s f0 g0 (-1)))) (zKi F) ∧ ∀ u, zisL u = false → zGo (d + 2) m_X9_judge 2 [.ref 1031, .int (Int32.ofNat m), u] [] (yz (put c (vs s f0 g0 (-1)))) (zKi F)) →
      (¬ (vwords m cd j i).1 = 0 → F (Int32.ofNat (vwords m cd j i).1) (put c (vs s f0 g0 (vwords m cd j i).2))) → zGo (d + 2) m_X9_judge 2 [.ref 1031, .int (Int32.ofNat i), u] [] (yz (put c (vs s f0 g0 (-1)))) (zKi F) := by
    intro j
    induction j with
    | zero =>
      intro i u hi hu k1 k2
      have : i = m := by omega
      rw [this]
      exact (k1 rfl).2 u hu
    | succ j ih =>
      intro i u hi hu k1 k2
      have hle := (aop_eq cd i).2
      refine B_X9_judge_2 _ _ hu ?_
      simp (disch := omega) only [qs_m, hM, n_lt]
      refine ⟨fun _ => ?_, fun e => absurd (by omega) e⟩
      refine c9_op (hC' _ _ _) (by omega) ?_
      unfold vwords at k1 k2
      have ihh := ih (i + 1)
      have hvw : vword m cd i = if 26 < aop cd i then 1 else if ((aop cd i = 2 ∨ aop cd i = 3) ∧ (aarg cd i < 0 ∨ 16 ≤ (aarg cd i).toNatClampNeg)) ∨ ((aop cd i = 21 ∨ aop cd i = 22 ∨ aop cd i = 23) ∧ (aarg cd i < 0 ∨ m ≤ (aarg cd i).toNatClampNeg)) then 2 else 0 := rfl
      simp (disch := omega) only [n_lit 26, n_lt]
      refine ⟨fun e => ?_, fun e26 => ?_⟩
      · rw [if_pos e] at hvw
        rw [hvw, if_neg (by decide)] at k2
        exact fin 0 1 i (k2 (by show ¬ 1 = 0; decide))
      · rw [if_neg e26] at hvw
        refine c9_arg (hC' _ _ _) (by omega) (c9_op (hC' _ _ _) (by omega) ?_)
        have bad : vword m cd i = 2 → zGo (d + 1) m_X9_at 0 [.ref 1031, .int 2, .int (Int32.ofNat i)] [] (yz (put c (vs s f0 g0 (-1)))) (zKi fun v4 w3 => F v4 w3) := by
          intro e
          rw [e, if_neg (by decide)] at k2
          exact fin 0 2 i (k2 (by show ¬ 2 = 0; decide))
        have good : vword m cd i = 0 → zGo (d + 2) m_X9_judge 2 [.ref 1031, .int (Int32.ofNat i + 1), .int (aarg cd i)] [] (yz (put c (vs s f0 g0 (-1)))) (zKi F) := by
          intro e
          rw [if_pos e] at k1 k2
          rw [show (Int32.ofNat i + 1 : Int32) = Int32.ofNat (i + 1) from n_add i 1]
          exact ihh _ (by omega) rfl k1 k2
        have go61 : ¬ ((aop cd i = 2 ∨ aop cd i = 3) ∧ (aarg cd i < 0 ∨ 16 ≤ (aarg cd i).toNatClampNeg)) → zGo (d + 2) m_X9_judge 61 [.ref 1031, .int (Int32.ofNat i), .int (aarg cd i)] [] (yz (put c (vs s f0 g0 (-1)))) (zKi F) := by
          intro hno
          refine B_X9_judge_61 _ _ (c9_op (hC' _ _ _) (by omega) (c9_jumps (by omega) ?_))
          by_cases q : aop cd i = 21 ∨ aop cd i = 22 ∨ aop cd i = 23
          · rw [if_pos q]
            refine ⟨fun e => absurd e (by decide), fun _ => ?_⟩
            rw [show yI (put c (vs s f0 g0 (-1))) 1031 3 - 1 = Int32.ofNat (m - 1) from by rw [qs_m, hM]; exact n_sub (a := m) (b := 1) (by omega)]
            refine c9_in _ (by omega) ?_
            by_cases e : aarg cd i < 0 ∨ m - 1 < (aarg cd i).toNatClampNeg
            · rw [if_pos e]
              refine ⟨fun _ => bad ?_, fun z => absurd rfl z⟩
              rw [hvw, if_pos (Or.inr ⟨q, by
                rcases e with e | e
                · exact Or.inl e
                · exact Or.inr (by omega)⟩)]
            · rw [if_neg e]
              refine ⟨fun z => absurd z (by decide), fun _ => good ?_⟩
              rw [hvw, if_neg (by
                intro z
                rcases z with z | z
                · exact hno z
                · refine e ?_
                  rcases z.2 with z | z
                  · exact Or.inl z
                  · exact Or.inr (by omega))]
          · rw [if_neg q]
            refine ⟨fun _ => good ?_, fun e => absurd rfl e⟩
            rw [hvw, if_neg (by
              intro z
              rcases z with z | z
              · exact hno z
              · exact q z.1)]
        have go51 : (aop cd i = 2 ∨ aop cd i = 3) → zGo (d + 2) m_X9_judge 51 [.ref 1031, .int (Int32.ofNat i), .int (aarg cd i)] [] (yz (put c (vs s f0 g0 (-1)))) (zKi F) := by
          intro ho
          refine B_X9_judge_51 _ _ (c9_in (n := 15) _ (by decide) ?_)
          by_cases e : aarg cd i < 0 ∨ 15 < (aarg cd i).toNatClampNeg
          · rw [if_pos e]
            refine ⟨fun _ => bad ?_, fun z => absurd rfl z⟩
            rw [hvw, if_pos (Or.inl ⟨ho, by
              rcases e with e | e
              · exact Or.inl e
              · exact Or.inr (by omega)⟩)]
          · rw [if_neg e]
            refine ⟨fun z => absurd z (by decide), fun _ => go61 (fun z => e ?_)⟩
            rcases z.2 with z | z
            · exact Or.inl z
            · exact Or.inr (by omega)
        simp (disch := omega) only [n_lit 2, n_lit 3, n_eq]
        refine ⟨fun e => go51 (Or.inl e), fun e2 => c9_op (hC' _ _ _) (by omega) ?_⟩
        simp (disch := omega) only [n_eq]
        exact ⟨fun e => go51 (Or.inr e), fun e3 => go61 (fun z => z.1.elim e2 e3)⟩
  refine B_X9_judge_0 (loop m 0 _ (by omega) rfl ?_ ?_)
  · intro z
    obtain ⟨z1, z2⟩ := vwords_zero _ _ z
    unfold vfault at k
    rw [if_pos z] at k
    have key : ∀ u, zisL u = false → zGo (d + 2) m_X9_judge 2 [.ref 1031, .int (Int32.ofNat m), u] [] (yz (put c (vs s f0 g0 (-1)))) (zKi F) := by
      intro u hu
      refine B_X9_judge_2 _ _ hu ?_
      simp (disch := omega) only [qs_m, hM, n_lt]
      refine ⟨fun e => absurd e (by omega), fun _ => ?_⟩
      rw [show ((Int32.ofNat m = 0) = (m = 0)) from n_eq (by omega) (by decide)]
      refine ⟨fun e => ?_, fun e => ?_⟩
      · rw [if_pos e] at k
        exact fin 0 6 0 (k _ _)
      · rw [if_neg e] at k
        have ini : ∀ (j i : Nat) (f g : Nat → Int32), i + j = m → (∀ q, q < i → f q = -1 ∧ g q = 0) → zGo (d + 1) m_X9_findHeights 2 [.ref 1031, .int (Int32.ofNat i), zJ, zJ, zJ, zJ, zJ] [] (yz (put c (vs s f g (-1)))) (zKi fun v14 w13 => F v14 w13) := by
          intro j
          induction j with
          | zero =>
            intro i f g hi hq
            refine B_X9_findHeights_2 _ ?_
            simp (disch := omega) only [qs_m, hM, n_lt]
            refine ⟨fun e => absurd e (by omega), fun _ => ?_⟩
            rw [show (Int32.toNatClampNeg 0) = 0 from rfl, vs_f]
            refine c9_heights hm hM hC (fun a ha => z2 a (by omega) (by omega)) m vH0 (fun _ => false) _ _ _ _ _ _ _ _ (vcnt_le m) rfl rfl rfl rfl rfl ?_ ?_ ?_ k
            · intro a ha
              unfold vH0
              by_cases q : a = 0
              · rw [q, upd_same, if_pos rfl]
                rfl
              · rw [upd_ne _ _ q, if_neg q]
                exact (hq a (by omega)).1
            · intro a ha
              exact (hq a (by omega)).2
            · intro a h q
              unfold vH0 at q
              by_cases e9 : a = 0
              · rw [if_pos e9] at q
                cases q
                omega
              · rw [if_neg e9] at q
                cases q
          | succ j ih =>
            intro i f g hi hq
            refine B_X9_findHeights_2 _ ?_
            simp (disch := omega) only [qs_m, hM, n_lt, n_cl, vs_f, vs_g]
            refine ⟨fun _ => ⟨n_in (by omega) (by decide), n_in (by omega) (by decide), ?_⟩, fun e => absurd (by omega) e⟩
            rw [show (Int32.ofNat i + 1 : Int32) = Int32.ofNat (i + 1) from n_add i 1]
            refine ih (i + 1) _ _ (by omega) (fun q hq' => ?_)
            by_cases e9 : q = i
            · rw [e9, upd_same, upd_same]
              exact ⟨rfl, rfl⟩
            · rw [upd_ne _ _ e9, upd_ne _ _ e9]
              exact hq q (by omega)
        exact B_X9_findHeights_0 (ini m 0 f0 g0 (by omega) (fun q hq => absurd hq (by omega)))
    exact ⟨key _ rfl, key⟩
  · intro z
    unfold vfault at k
    rw [if_neg z] at k
    exact k _ _
end VM
