/-! verify: what is wrong with the words -/
def aJmp (o : Nat) : Prop := o = 21 ∨ o = 22 ∨ o = 23
def vword (m : Nat) (cd : Nat → Int32) (a : Nat) : Nat := if 26 < aop cd a then 1 else if ((aop cd a = 2 ∨ aop cd a = 3) ∧ (aarg cd a < 0 ∨ 16 ≤ (aarg cd a).toNatClampNeg)) ∨ ((aop cd a = 21 ∨ aop cd a = 22 ∨ aop cd a = 23) ∧ (aarg cd a < 0 ∨ m ≤ (aarg cd a).toNatClampNeg)) then 2 else 0
def vwords (m : Nat) (cd : Nat → Int32) : Nat → Nat → Nat × Int32
  | 0, _ => (0, -1)
  | k + 1, a => if vword m cd a = 0 then vwords m cd k (a + 1) else (vword m cd a, Int32.ofNat a)
def vput (H : Nat → Option Nat) (x b : Nat) : Nat → Option Nat := fun a => if a = x then some b else H a
def vreach (m x b : Nat) (H : Nat → Option Nat) : Nat × (Nat → Option Nat) := if x < m then (match H x with
    | none => (0, vput H x b)
    | some h => if h = b then (0, vput H x b) else (5, H)) else (6, H)
def vlook (m : Nat) (cd : Nat → Int32) (a h : Nat) (H : Nat → Option Nat) : Nat × (Nat → Option Nat) :=
  if h < tk (aop cd a) then (3, H) else if 16 < h - tk (aop cd a) + pt (aop cd a) then (4, H) else
    (fun r : Nat × (Nat → Option Nat) => if r.1 = 0 ∧ (aop cd a = 21 ∨ aop cd a = 22 ∨ aop cd a = 23) then vreach m (aarg cd a).toNatClampNeg (h - tk (aop cd a) + pt (aop cd a)) r.2 else r)
      (if aop cd a = 0 ∨ aop cd a = 21 then (0, H) else vreach m (a + 1) (h - tk (aop cd a) + pt (aop cd a)) H)
def vfind (P : Nat → Bool) : Nat → Nat → Option Nat
  | 0, _ => none
  | k + 1, a => if P a = true then some a else vfind P k (a + 1)
def vdo (D : Nat → Bool) (x : Nat) : Nat → Bool := fun a => if a = x then true else D a
def vto (H : Nat → Option Nat) (D : Nat → Bool) (a : Nat) : Bool := (H a).isSome && !(D a)
def vloop (m : Nat) (cd : Nat → Int32) : Nat → (Nat → Option Nat) → (Nat → Bool) → Nat × Int32
  | 0, _, _ => (0, -1)
  | k + 1, H, D => match vfind (vto H D) m 0 with
    | none => (0, -1)
    | some a => if (vlook m cd a ((H a).getD 0) H).1 = 0 then vloop m cd k (vlook m cd a ((H a).getD 0) H).2 (vdo D a) else ((vlook m cd a ((H a).getD 0) H).1, Int32.ofNat a)
def vH0 : Nat → Option Nat := fun a => if a = 0 then some 0 else none
def vfault (m : Nat) (cd : Nat → Int32) : Nat × Int32 := if (vwords m cd m 0).1 = 0 then (if m = 0 then (6, 0) else vloop m cd m vH0 (fun _ => false)) else vwords m cd m 0
theorem vfind_some {P : Nat → Bool} : ∀ {k a b : Nat}, vfind P k a = some b → a ≤ b ∧ b < a + k ∧ P b = true ∧ ∀ c, a ≤ c → c < b → P c = false := by
  intro k
  induction k with
  | zero => intro a b h; cases h
  | succ k ih =>
    intro a b h
    unfold vfind at h
    by_cases hp : P a = true
    · rw [if_pos hp] at h
      cases h
      exact ⟨Nat.le_refl _, by omega, hp, fun c h1 h2 => absurd h1 (by omega)⟩
    · rw [if_neg hp] at h
      obtain ⟨h1, h2, h3, h4⟩ := ih h
      refine ⟨by omega, by omega, h3, fun c c1 c2 => ?_⟩
      by_cases e : c = a
      · rw [e]
        exact Bool.eq_false_iff.mpr hp
      · exact h4 c (by omega) c2
theorem vfind_none {P : Nat → Bool} : ∀ {k a : Nat}, vfind P k a = none → ∀ c, a ≤ c → c < a + k → P c = false := by
  intro k
  induction k with
  | zero => intro a h c c1 c2; omega
  | succ k ih =>
    intro a h c c1 c2
    unfold vfind at h
    by_cases hp : P a = true
    · rw [if_pos hp] at h
      cases h
    · rw [if_neg hp] at h
      by_cases e : c = a
      · rw [e]
        exact Bool.eq_false_iff.mpr hp
      · exact ih h c (by omega) (by omega)
theorem vfind_skip {P : Nat → Bool} : ∀ (j k a : Nat), (∀ c, a ≤ c → c < a + j → P c = false) → vfind P (j + k) a = vfind P k (a + j) := by
  intro j
  induction j with
  | zero => intro k a _; rw [Nat.zero_add]; rfl
  | succ j ih =>
    intro k a h
    rw [show j + 1 + k = (j + k) + 1 from by omega]
    conv => lhs; unfold vfind
    rw [if_neg (by rw [h a (Nat.le_refl _) (by omega)]; decide), ih k (a + 1) (fun c c1 c2 => h c (by omega) (by omega))]
    rw [show a + 1 + j = a + (j + 1) from by omega]
/-! rows that hold heights, marks -/
def vhv (o : Option Nat) : Int32 := match o with
  | none => -1
  | some h => Int32.ofNat h
def vrow (m : Nat) (f : Nat → Int32) (H : Nat → Option Nat) : Prop := ∀ a, a < m → f a = vhv (H a)
def vrowD (m : Nat) (g : Nat → Int32) (D : Nat → Bool) : Prop := ∀ a, a < m → g a = if D a = true then 1 else 0
def vbd (H : Nat → Option Nat) : Prop := ∀ a h, H a = some h → h ≤ 16
theorem vrow.put {m : Nat} {f : Nat → Int32} {H : Nat → Option Nat} (h : vrow m f H) (x b : Nat) : vrow m (upd f x (Int32.ofNat b)) (vput H x b) := by
  intro a ha
  unfold vput
  by_cases e : a = x
  · rw [e, upd_same, if_pos rfl]
    rfl
  · rw [upd_ne _ _ e, if_neg e]
    exact h a ha
theorem vrowD.put {m : Nat} {g : Nat → Int32} {D : Nat → Bool} (h : vrowD m g D) (x : Nat) : vrowD m (upd g x 1) (vdo D x) := by
  intro a ha
  unfold vdo
  by_cases e : a = x
  · rw [e, upd_same, if_pos rfl]
    rfl
  · rw [upd_ne _ _ e, if_neg e]
    exact h a ha
theorem vbd.put {H : Nat → Option Nat} (h : vbd H) {x b : Nat} (hb : b ≤ 16) : vbd (vput H x b) := by
  intro a h' e
  unfold vput at e
  by_cases q : a = x
  · rw [if_pos q] at e
    cases e
    exact hb
  · rw [if_neg q] at e
    exact h a h' e
theorem vreach_bd {m x b : Nat} {H : Nat → Option Nat} (h : vbd H) (hb : b ≤ 16) : vbd (vreach m x b H).2 := by
  unfold vreach
  split
  · split
    · exact h.put hb
    · split
      · exact h.put hb
      · exact h
  · exact h
theorem vlook_bd {m : Nat} {cd : Nat → Int32} {a h : Nat} {H : Nat → Option Nat} (hH : vbd H) : vbd (vlook m cd a h H).2 := by
  unfold vlook
  split
  · exact hH
  · split
    · exact hH
    · rename_i h1 h2
      have : vbd (if aop cd a = 0 ∨ aop cd a = 21 then (0, H) else vreach m (a + 1) (h - tk (aop cd a) + pt (aop cd a)) H).2 := by
        split
        · exact hH
        · exact vreach_bd hH (by omega)
      generalize (if aop cd a = 0 ∨ aop cd a = 21 then (0, H) else vreach m (a + 1) (h - tk (aop cd a) + pt (aop cd a)) H) = r at this
      dsimp only
      by_cases q : r.1 = 0 ∧ (aop cd a = 21 ∨ aop cd a = 22 ∨ aop cd a = 23)
      · rw [if_pos q]
        exact vreach_bd this (Nat.le_of_not_lt h2)
      · rw [if_neg q]
        exact this
/-! the class's -/
theorem yuR_over (w : zm) (p : Nat) (f g : Nat → Int32) : yuR (yuR w p f) p g = yuR w p g := by
  unfold yuR
  dsimp only [ySz, ySl, yK, yI, yL, yF, yA, yB, yQ]
  rw [y1_over]
theorem yuR_comm (w : zm) {p q : Nat} (f g : Nat → Int32) (h : p ≠ q) : yuR (yuR w p f) q g = yuR (yuR w q g) p f := by
  unfold yuR
  dsimp only [ySz, ySl, yK, yI, yL, yF, yA, yB, yQ]
  rw [y1_comm _ _ _ h]
theorem yuR_id (w : zm) (p : Nat) : yuR w p (yA w p) = w := by
  unfold yuR
  rw [y1_id]
  rfl
theorem yuI_over (w : zm) (p b : Nat) (v v' : Int32) : yuI (yuI w p b v) p b v' = yuI w p b v' := by
  unfold yuI
  dsimp only [ySz, ySl, yK, yI, yL, yF, yA, yB, yQ]
  rw [y2_over]
theorem yuI_id (w : zm) (p b : Nat) : yuI w p b (yI w p b) = w := by
  unfold yuI
  rw [y2_id]
  rfl
theorem yuI_R (w : zm) (p q b : Nat) (v : Int32) (f : Nat → Int32) : yuI (yuR w q f) p b v = yuR (yuI w p b v) q f := rfl
theorem c7_fill {d : Nat} {w : zm} {F : zm → Prop} {p n : Nat} (v : Int32) (hk : yk w p = some (.inr (0, n))) (hb : Nat.ble 1000 p = true) (hn : n ≤ 1000000) (k : F (yuR w p (fun i => if i < n then v else yA w p i))) : zGo d m_J7_fill_53178 0 [.ref p, .int v, zJ, zJ] [] (yz w) (zKv F) := by
  have go : ∀ (j i : Nat), i + j = n → zGo d m_J7_fill_53178 5 [.ref p, .int v, .int (Int32.ofNat i), .int (Int32.ofNat n)] [] (yz (yuR w p (fun q => if q < i then v else yA w p q))) (zKv F) := by
    intro j
    induction j with
    | zero =>
      intro i hi
      refine B_J7_fill_53178_5 _ _ _ _ n ?_
      simp (disch := omega) only [n_lt]
      refine ⟨fun c => absurd c (by omega), fun _ => ?_⟩
      rw [show i = n from by omega]
      exact k
    | succ j ih =>
      intro i hi
      refine B_J7_fill_53178_5 _ _ _ _ n ?_
      simp (disch := omega) only [n_lt, n_cl]
      refine ⟨fun _ => ⟨hk, hb, n_in (by omega) (by omega), ?_⟩, fun c => absurd (by omega) c⟩
      rw [show (Int32.ofNat i + 1 : Int32) = Int32.ofNat (i + 1) from n_add i 1]
      have e : yuA (yuR w p (fun q => if q < i then v else yA w p q)) p i v = yuR w p (fun q => if q < i + 1 then v else yA w p q) := by
        unfold yuA
        rw [yuR_over]
        refine congrArg (yuR w p) ?_
        have e1 : yA (yuR w p (fun q => if q < i then v else yA w p q)) p = (fun q => if q < i then v else yA w p q) := y1_same _ _ _
        rw [e1]
        funext q
        unfold upd
        by_cases h1 : q = i
        · rw [if_pos h1, if_pos (by omega)]
        · rw [if_neg h1]
          show (if q < i then v else yA w p q) = _
          by_cases h2 : q < i
          · rw [if_pos h2, if_pos (by omega)]
          · rw [if_neg h2, if_neg (by omega)]
      rw [e]
      exact ih (i + 1) (by omega)
  refine B_J7_fill_53178_0 _ _ n ⟨hk, hb, ?_⟩
  have e : w = yuR w p (fun q => if q < 0 then v else yA w p q) := by
    conv => lhs; rw [← yuR_id w p]
    refine congrArg (yuR w p) ?_
    funext q
    rw [if_neg (by omega)]
  have := go n 0 (by omega)
  rw [← e] at this
  exact this
theorem c8_isJump {d : Nat} {w : zm} {F : Int32 → zm → Prop} {o : Nat} (ho : o < 2147483648) (k : F (if o = 21 ∨ o = 22 ∨ o = 23 then 1 else 0) w) : zGo d m_X8_isJump 0 [.int (Int32.ofNat o)] [] (yz w) (zKi F) := by
  refine B_X8_isJump_0 _ ?_
  simp (disch := omega) only [n_lit 21, n_lit 22, n_lit 23, n_eq]
  refine ⟨fun e => ?_, fun e1 => ⟨fun e => ?_, fun e2 => ⟨fun e => ?_, fun e3 => ?_⟩⟩⟩
  · rwa [if_pos (Or.inl e)] at k
  · rwa [if_pos (Or.inr (Or.inl e))] at k
  · rwa [if_pos (Or.inr (Or.inr e))] at k
  · rwa [if_neg (by omega)] at k
/-- the rows that verify writes, and the place -/
def vw (w : zm) (f g : Nat → Int32) (pl : Int32) : zm := yuI (yuR (yuR w 1005 f) 1006 g) 1003 4 pl
theorem vw_f (w : zm) (f g f' : Nat → Int32) (pl : Int32) : yuR (vw w f g pl) 1005 f' = vw w f' g pl := by
  unfold vw
  rw [← yuI_R, yuR_comm (p := 1006) (q := 1005) _ _ _ (by decide), yuR_over]
theorem vw_g (w : zm) (f g g' : Nat → Int32) (pl : Int32) : yuR (vw w f g pl) 1006 g' = vw w f g' pl := by
  unfold vw
  rw [← yuI_R, yuR_over]
theorem vw_fA (w : zm) (f g : Nat → Int32) (pl : Int32) (i : Nat) (x : Int32) : yuA (vw w f g pl) 1005 i x = vw w (upd f i x) g pl := vw_f w f g _ pl
theorem vw_gA (w : zm) (f g : Nat → Int32) (pl : Int32) (i : Nat) (x : Int32) : yuA (vw w f g pl) 1006 i x = vw w f (upd g i x) pl := vw_g w f g _ pl
theorem vw_p (w : zm) (f g : Nat → Int32) (pl pl' : Int32) : yuI (vw w f g pl) 1003 4 pl' = vw w f g pl' := by
  unfold vw
  rw [yuI_over]
theorem vw_id (w : zm) : w = vw w (yA w 1005) (yA w 1006) (yI w 1003 4) := by
  have e : vw w (yA w 1005) (yA w 1006) (yI w 1003 4) = yuI (yuR (yuR w 1005 (yA w 1005)) 1006 (yA w 1006)) 1003 4 (yI w 1003 4) := rfl
  rw [e, yuR_id, yuR_id, yuI_id]
theorem qv_f (w : zm) (f g : Nat → Int32) (pl : Int32) : yA (vw w f g pl) 1005 = f := rfl
theorem qv_g (w : zm) (f g : Nat → Int32) (pl : Int32) : yA (vw w f g pl) 1006 = g := rfl
theorem qv_t (w : zm) (f g : Nat → Int32) (pl : Int32) : yA (vw w f g pl) 1 = yA w 1 := rfl
theorem qv_u (w : zm) (f g : Nat → Int32) (pl : Int32) : yA (vw w f g pl) 2 = yA w 2 := rfl
theorem qv_c (w : zm) (f g : Nat → Int32) (pl : Int32) : yI (vw w f g pl) 1003 3 = yI w 1003 3 := rfl
