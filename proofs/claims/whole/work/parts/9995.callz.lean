/-! invalidate of the model; reset -/
def xClr (X : xs) (i : Nat) : xs := (xM X, xC X, xF X, xSt X, xA X, xHe X, xCu X, xN X, xR X, (fun b => if b < i then none else xT X b))
def aZ (a : am) : am := (0, 0, 0, 0, a.2.2.2.2.1, zmem a.2.2.2.2.2.1 16, zmem a.2.2.2.2.2.2.1 32, a.2.2.2.2.2.2.2)
def xReset (X : xs) : xs := (0, xC X, -1, 0, aZ (xA X), zmem (xHe X) 200, zmem (xCu X) 200, y1 (y1 (y1 (y1 (y1 (xN X) 0 0) 1 0) 2 0) 3 0) 4 0, none, (fun b => if b < 200 then none else xT X b))
section CALLZ
variable {d th : Nat} {u : Nat × Nat} {e w c : zm} {s : ms} {X X' : xs} {N : Nat} {F : Int32 → zm → Prop}
theorem xInv_keep (X : xs) (n : Nat) : xM (xInv X n) = xM X ∧ xC (xInv X n) = xC X ∧ xF (xInv X n) = xF X ∧ xSt (xInv X n) = xSt X ∧ xA (xInv X n) = xA X ∧ xT (xInv X n) = nSet (xT X) n none ∧ (xR (xInv X n) = none ∨ (∃ r, xR X = some r ∧ xR (xInv X n) = some r ∧ ¬ r.1 = n)) := by
  unfold xInv xInv0 xDropAt
  rw [show xR (xsCu (xsHe X (upd (xHe X) n 0)) (upd (xCu X) n 0)) = xR X from rfl]
  cases h : xR X with
  | none => exact ⟨rfl, rfl, rfl, rfl, rfl, rfl, Or.inl h⟩
  | some r =>
    dsimp only
    by_cases c : r.1 = n
    · rw [if_pos c]
      exact ⟨rfl, rfl, rfl, rfl, rfl, rfl, Or.inl rfl⟩
    · rw [if_neg c]
      exact ⟨rfl, rfl, rfl, rfl, rfl, rfl, Or.inr ⟨r, rfl, h, c⟩⟩
theorem cN_sub {f g : Nat → Bool} (h : ∀ i, f i = true → g i = true) : ∀ n, cN f n ≤ cN g n := by
  intro n
  induction n with
  | zero => exact Nat.le_refl _
  | succ n ih =>
    show cN f n + (if f n = true then 1 else 0) ≤ cN g n + (if g n = true then 1 else 0)
    by_cases c : f n = true
    · rw [if_pos c, if_pos (h n c)]
      omega
    · rw [if_neg c]
      omega
theorem xInv_ok (O : xOk N X) (n : Nat) : xOk N (xInv X n) := by
  obtain ⟨k1, k2, k3, k4, k5, k6, k7⟩ := xInv_keep X n
  obtain ⟨o1, o2, o3, o4, o5, o6, o7, o8⟩ := O
  refine ⟨by rw [k1]; exact o1, by rw [k4]; exact o2, by rw [k5]; exact o3, by rw [k5]; exact o4, by rw [k5]; exact o5, by rw [k5]; exact o6, fun z => ?_, fun z => ?_⟩
  · rw [k4] at z
    obtain ⟨t0, r0⟩ := o7 z
    refine ⟨fun a => ?_, ?_⟩
    · rw [k6]
      unfold nSet
      split
      · rfl
      · exact t0 a
    · rcases k7 with k7 | ⟨r, q1, q2, q3⟩
      · exact k7
      · rw [r0] at q1; cases q1
  · rw [k4] at z
    obtain ⟨H, v1, v2, v3, v4⟩ := o8 z
    refine ⟨H, by rw [k1, k2]; exact v1, fun a T hT => ?_, fun r hr => ?_, fun z2 => by rw [k5]; exact v4 (by rw [k4] at z2; exact z2)⟩
    · rw [k6] at hT
      rw [k2]
      by_cases c : a = n
      · rw [c, nSet_same] at hT; cases hT
      · rw [nSet_ne _ _ c] at hT
        exact v2 a T hT
    · rcases k7 with k7 | ⟨r', q1, q2, q3⟩
      · rw [k7] at hr; cases hr
      · rw [q2] at hr
        cases hr
        obtain ⟨w1, w2⟩ := v3 r q1
        rw [k4, k2]
        refine ⟨w1, ?_⟩
        obtain ⟨y1, y2, y3, y4, y5, y6⟩ := w2
        refine ⟨y1, by rw [k1]; exact y2, y3, y4, ?_, ?_⟩
        · rw [k5]; exact y5
        · cases hk : r.2.1 with
          | none =>
            rw [hk] at y6
            dsimp only at y6 ⊢
            refine ⟨?_, ?_, y6.2.2⟩
            · rw [k6, nSet_ne _ _ q3]; exact y6.1
            · refine Nat.lt_of_le_of_lt ?_ y6.2.1
              unfold xMany
              rw [k6]
              refine cN_sub (fun i hi => ?_) 200
              by_cases c : i = n
              · rw [c, nSet_same] at hi; cases hi
              · rw [nSet_ne _ _ c] at hi; exact hi
          | some j =>
            rw [hk] at y6
            dsimp only at y6 ⊢
            rw [k6, nSet_ne _ _ q3]
            exact y6
theorem q_invalidate (R : RQ th s X) (O : xOk N X) (a1 : Int32) (k : mres th c (if ¬ a1 < 0 ∧ a1 < Int32.ofNat (xM X) then xInv X a1.toNatClampNeg else X) (if ¬ a1 < 0 ∧ a1 < Int32.ofNat (xM X) then 0 else 1) (if (xT X a1.toNatClampNeg).isSome = true then 1 else 0) F) : zGo (d + 1) m_X9_invalidate 0 [.ref 1031, .int a1, zJ] [] (yz (put c s)) (zKi F) := by
  obtain ⟨sl, Ra, Rr, Rt⟩ := id R
  have hm : xM X ≤ 200 := Ra.2.2.2.2.2.2.2.2.1
  have e9 : yI (put c s) 1031 3 = Int32.ofNat (xM X) := Ra.2.2.2.2.2.2.2.2.2.1
  have no : ¬ (¬ a1 < 0 ∧ a1 < Int32.ofNat (xM X)) → zGo (d + 1) m_X9_invalidate 20 [.ref 1031, .int a1, zJ] [.int 1, .ref 1031] (yz (put c s)) (zKi F) := by
    intro z
    rw [if_neg z, if_neg z] at k
    refine B_X9_invalidate_20 _ _ ⟨fun _ => ?_, fun q => absurd (by decide) q⟩
    rw [p_I]
    exact k.tw (by decide) R _
  refine B_X9_invalidate_0 _ (B_X9_in_0 _ _ _ ?_)
  rw [e9]
  refine ⟨fun z => ⟨fun _ => no (fun q => q.1 z), fun q => absurd rfl q⟩, fun z => ?_⟩
  obtain ⟨n, n1, n2⟩ := n_of z
  rw [n_hi n2 n1 (by omega)]
  subst n2
  refine ⟨fun z2 => ⟨fun _ => no (fun q => by have := q.2; rw [n_lt n1 (by omega)] at this; omega), fun q => absurd rfl q⟩, fun z2 => ⟨fun q => absurd q (by decide), fun _ => ?_⟩⟩
  have hr : ¬ Int32.ofNat n < 0 ∧ Int32.ofNat n < Int32.ofNat (xM X) := ⟨z, by rw [n_lt n1 (by omega)]; omega⟩
  rw [if_pos hr, if_pos hr, n_cl n1] at k
  have hn : n < 200 := by omega
  refine B_X9_invalidate_20 _ _ ⟨fun q => absurd q (by decide), fun _ => ?_⟩
  rw [p_I]
  have R0 : RM th 0 (tI s 1 0) X := R
  have Rt0 : RMt (sA (tI s 1 0)) X sl := Rt
  -- heats, cuts, what is recorded
  have fin : ∀ (s1 : ms) (Y : xs) (sl1 : Nat → Option Nat) (v2 : Int32), RMa th 0 s1 Y → RMt (sA s1) Y sl1 → sI s1 = sI (tI s 1 0) → sA s1 1059 = sA s 1059 → sA s1 1060 = sA s 1060 → Y = xsT X n none → (∀ t a, a ≠ n → sl t = some a → sl1 t = some a) → ((v2 < 0) = ((xT X n).isSome = false)) → zGo (d + 1) m_X9_invalidate 49 [.ref 1031, .int (Int32.ofNat n), .int v2] [] (yz (put c s1)) (zKi F) := by
    intro s1 Y sl1 v2 RaY RtY hI h59 h60 hY hsl hv
    subst hY
    refine B_X9_invalidate_49 _ _ ?_
    rw [n_cl n1, hv, p_A _ _ _ _ _ rfl, p_A _ _ _ _ _ rfl, p_I]
    have Ra2 := (RaY.heat n 0).cuts n 0
    have Rt2 : RMt (y1 (y1 (sA s1) 1037 (upd (sA s1 1037) n 0)) 1038 (upd (sA s1 1038) n 0)) (xsCu (xsHe (xsT X n none) (upd (xHe X) n 0)) (upd (xCu X) n 0)) sl1 := RtY.keep ((tmk_A _ _ (by decide)).trans (tmk_A _ _ (by decide))) rfl rfl
    have e42 : yI (put c s1) 1031 42 = sI (tI s 1 0) 42 := by show sI s1 42 = _; rw [hI]
    have e1 : sI s1 1 = 0 := by rw [hI]; rfl
    rw [e42]
    have ans : ∀ (s2 : ms), RM th 0 s2 (xInv X n) → sI s2 1 = 0 → (((xT X n).isSome = false → F 0 (put c s2)) ∧ (¬ (xT X n).isSome = false → F 1 (put c s2))) := by
      intro s2 R2 h1
      cases hT : xT X n with
      | none =>
        rw [hT] at k
        exact ⟨fun _ => k s2 0 R2.rq h1 (fun _ => rfl), fun q => absurd rfl q⟩
      | some T =>
        rw [hT] at k
        exact ⟨fun q => (by cases q), fun _ => k s2 1 R2.rq h1 (fun _ => rfl)⟩
    have eX : xInv X n = xsT (xDropAt (xsCu (xsHe X (upd (xHe X) n 0)) (upd (xCu X) n 0)) n) n none := rfl
    cases hR : xR X with
    | none =>
      rw [hR] at Rr
      rw [show sI (tI s 1 0) 42 = -1 from Rr]
      refine ⟨n_in hn (by decide), n_in hn (by decide), fun q => absurd q.symm (by rw [n_m1 n1]; exact id), fun _ => ans _ ⟨sl1, ?_, ?_, ?_⟩ e1⟩
      all_goals
        rw [eX]
        unfold xDropAt
        rw [show xR (xsCu (xsHe X (upd (xHe X) n 0)) (upd (xCu X) n 0)) = none from hR]
      · exact Ra2
      · show RMr _ _ _ (xR X)
        rw [hR]
        show sI s1 42 = -1
        rw [hI]
        exact Rr
      · exact Rt2
    | some r =>
      rw [hR] at Rr
      have hr1 := Rr.1
      rw [show sI (tI s 1 0) 42 = Int32.ofNat r.1 from Rr.2.1, n_eq (by omega) n1]
      refine ⟨n_in hn (by decide), n_in hn (by decide), fun q => ans _ ⟨sl1, ?_, ?_, ?_⟩ e1, fun q => ans _ ⟨sl1, ?_, ?_, ?_⟩ e1⟩
      all_goals
        rw [eX]
        unfold xDropAt
        rw [show xR (xsCu (xsHe X (upd (xHe X) n 0)) (upd (xCu X) n 0)) = some r from hR]
        dsimp only
      · rw [if_pos q]
        exact (Ra2.I (b := 42) (-1) (by decide)).xx ⟨_, _, rfl⟩
      · rw [if_pos q]
        rfl
      · rw [if_pos q]
        exact Rt2
      · rw [if_neg q]
        exact Ra2
      · rw [if_neg q]
        show RMr _ _ _ (xR X)
        rw [hR]
        obtain ⟨y1, y2, y3, y4, y5, y6⟩ := Rr
        have cI : ∀ b, sI s1 b = sI (tI s 1 0) b := fun b => by rw [hI]
        refine ⟨y1, (cI 42).trans y2, ?_, (cI 45).trans y4, (cI 46).trans y5, fun i hi => ?_⟩
        · cases hk : r.2.1 with
          | none =>
            rw [hk] at y3
            exact (cI 43).trans y3
          | some j =>
            rw [hk] at y3
            obtain ⟨x1, t, x2, x3, x4, x5⟩ := y3
            exact ⟨x1, t, x2, hsl t _ q x3, (cI 43).trans x4, (cI 44).trans x5⟩
        · show sA s1 1059 i = _ ∧ sA s1 1060 i = _
          rw [h59, h60]
          exact y6 i hi
      · rw [if_neg q]
        exact Rt2
  obtain ⟨sl0, Ra0, -, -⟩ := id R0
  refine c9_slot Rt0 hn (fun t T t1 t2 t3 t4 => ?_) (fun t3 => ?_)
  · rw [n_neg (by omega), n_cl (by omega), p_A _ _ _ _ _ rfl]
    refine ⟨fun q => q.elim, fun _ => ⟨n_in t1 (by decide), fin _ (xsT X n none) (nSet sl t none) _ ?_ ?_ rfl rfl rfl rfl (fun t' a ha h => ?_) ?_⟩⟩
    · exact (Ra0.A (p := 1039) _ (by decide)).xx ⟨_, _, rfl⟩
    · exact Rt0.remove t1 t2 rfl (fun p h1 h2 => y1_ne _ _ (by omega)) rfl rfl (xMany_less hn t3)
    · rw [nSet_ne _ _ (fun q => by rw [q, t2] at h; cases h; exact ha rfl)]
      exact h
    · rw [n_neg (by omega), t3]
      exact propext ⟨fun q => q.elim, fun q => by cases q⟩
  · refine ⟨fun _ => fin _ (xsT X n none) sl _ ?_ ?_ rfl rfl rfl rfl (fun t' a ha h => h) ?_, fun q => absurd (show (-1 : Int32) < 0 by decide) q⟩
    · rw [xsT_none t3]
      exact Ra0
    · rw [xsT_none t3]
      exact Rt0
    · rw [t3]
      exact propext ⟨fun _ => rfl, fun _ => by decide⟩
end CALLZ
