/-! the model's slots: a change of one leaves the others -/
def slo (p i : Nat) : Nat := if p = 1041 ∨ p = 1042 ∨ p = 1049 ∨ p = 1050 ∨ p = 1051 ∨ p = 1052 then i / 48 else if p = 1053 ∨ p = 1056 ∨ p = 1057 ∨ p = 1058 then i / 4 else if p = 1054 ∨ p = 1055 then i / 192 else i
def sfr (A A' : Nat → Nat → Int32) (t : Nat) : Prop := ∀ p i, 1040 ≤ p → p ≤ 1058 → slo p i ≠ t → A' p i = A p i
theorem sfr.rf (A : Nat → Nat → Int32) (t : Nat) : sfr A A t := fun _ _ _ _ _ => rfl
theorem sfr.trans {A A' A'' : Nat → Nat → Int32} {t : Nat} (h : sfr A A' t) (k : sfr A' A'' t) : sfr A A'' t := fun p i h1 h2 h3 => (k p i h1 h2 h3).trans (h p i h1 h2 h3)
theorem sfr_upd (A : Nat → Nat → Int32) {p0 i0 t : Nat} (v : Int32) (h : slo p0 i0 = t ∨ p0 < 1040 ∨ 1058 < p0) : sfr A (y1 A p0 (upd (A p0) i0 v)) t := by
  intro p i h1 h2 h3
  by_cases e : p = p0
  · subst e
    rw [y1_same]
    by_cases e2 : i = i0
    · subst e2
      exact absurd (by omega : slo p i = t) h3
    · rw [upd_ne _ _ e2]
  · rw [y1_ne _ _ e]
theorem sfr_tmk {A A' : Nat → Nat → Int32} (K : tmk A A') (t : Nat) : sfr A A' t := fun p i h1 h2 _ => by rw [K p (by omega) h2]
section SLO
variable {cd : Nat → Int32} {A A' : Nat → Nat → Int32} {t t' : Nat} {T : tr}
theorem tHm_fr (h : tHm cd A t' T) (S : sfr A A' t) (hn : t' ≠ t) : tHm cd A' t' T := by
  obtain ⟨h1, h2, h3, h4, h5, h6, h7, h8, h9, h10, h11, h12, h13, h14⟩ := h
  have s0 : ∀ p, 1040 ≤ p → p ≤ 1048 → p ≠ 1041 → p ≠ 1042 → A' p t' = A p t' := by
    intro p q1 q2 q3 q4
    refine S p t' q1 (by omega) ?_
    unfold slo
    rw [if_neg (by omega), if_neg (by omega), if_neg (by omega)]
    exact hn
  have s1 : ∀ p i, i < 48 → (p = 1041 ∨ p = 1042 ∨ p = 1049 ∨ p = 1050 ∨ p = 1051 ∨ p = 1052) → A' p (t' * 48 + i) = A p (t' * 48 + i) := by
    intro p i hi hp
    refine S p _ (by omega) (by omega) ?_
    unfold slo
    rw [if_pos hp]
    omega
  have s2 : ∀ p j, j < 4 → (p = 1053 ∨ p = 1056 ∨ p = 1057 ∨ p = 1058) → A' p (t' * 4 + j) = A p (t' * 4 + j) := by
    intro p j hj hp
    refine S p _ (by omega) (by omega) ?_
    unfold slo
    rw [if_neg (by omega), if_pos hp]
    omega
  have s3 : ∀ j i, j < 4 → i < 48 → A' 1055 ((t' * 4 + j) * 48 + i) = A 1055 ((t' * 4 + j) * 48 + i) := by
    intro j i hj hi
    refine S 1055 _ (by decide) (by decide) ?_
    unfold slo
    rw [if_neg (by decide), if_neg (by decide), if_pos (by decide)]
    omega
  refine ⟨by rw [s0 1040 (by decide) (by decide) (by decide) (by decide)]; exact h1, by rw [s0 1043 (by decide) (by decide) (by decide) (by decide)]; exact h2, by rw [s0 1044 (by decide) (by decide) (by decide) (by decide)]; exact h3, by rw [s0 1045 (by decide) (by decide) (by decide) (by decide)]; exact h4, by rw [s0 1046 (by decide) (by decide) (by decide) (by decide)]; exact h5, by rw [s0 1047 (by decide) (by decide) (by decide) (by decide)]; exact h6, by rw [s0 1048 (by decide) (by decide) (by decide) (by decide)]; exact h7, fun i hi => ?_, fun k hk => ?_, h10, fun j hj => ?_, h12, h13, h14⟩
  · rw [s1 1041 i (by omega) (by decide), s1 1042 i (by omega) (by decide)]
    exact h8 i hi
  · rw [s1 1049 k (by omega) (by decide), s1 1050 k (by omega) (by decide), s1 1051 k (by omega) (by decide), s1 1052 k (by omega) (by decide)]
    exact h9 k hk
  · obtain ⟨b1, b2, b3, b4, b5⟩ := h11 j hj
    refine ⟨by rw [s2 1053 j (by omega) (by decide)]; exact b1, by rw [s2 1056 j (by omega) (by decide)]; exact b2, by rw [s2 1057 j (by omega) (by decide)]; exact b3, by rw [s2 1058 j (by omega) (by decide)]; exact b4, fun i hi => ?_⟩
    have := h14 j hj
    rw [s3 j i (by omega) (by omega)]
    exact b5 i hi
theorem RMt.set {X X' : xs} {sl : Nat → Option Nat} {a : Nat} {T' : tr} (R : RMt A X sl) (ht : t < 16) (hs : sl t = some a) (S : sfr A A' t) (h9 : A' 1039 = A 1039) (hX : xT X' = nSet (xT X) a (some T')) (hC : xC X' = xC X) (hT : tHm (xC X) A' t T') : RMt A' X' sl := by
  obtain ⟨r1, r2, r3, r4, r5⟩ := R
  obtain ⟨a1, T0, a2, -⟩ := r3 t a ht hs
  refine ⟨by rw [h9]; exact r1, r2, fun t' b ht' hb => ?_, fun b Tb hb => ?_, ?_⟩
  · obtain ⟨z1, T, z2, z3⟩ := r3 t' b ht' hb
    refine ⟨z1, ?_⟩
    rw [hX, hC]
    by_cases e : b = a
    · subst e
      have := r2 t' t b ht' ht hb hs
      subst this
      rw [nSet_same]
      exact ⟨T', rfl, hT⟩
    · rw [nSet_ne _ _ e]
      have hne : t' ≠ t := by
        intro z
        rw [z, hs] at hb
        cases hb
        exact e rfl
      exact ⟨T, z2, tHm_fr z3 S hne⟩
  · rw [hX] at hb
    by_cases e : b = a
    · subst e
      exact ⟨t, ht, hs⟩
    · rw [nSet_ne _ _ e] at hb
      exact r4 b Tb hb
  · rw [r5]
    unfold xMany
    rw [hX]
    refine cN_eq 200 (fun i _ => ?_)
    by_cases e : i = a
    · rw [e, nSet_same, a2]
      rfl
    · rw [nSet_ne _ _ e]
theorem tHm_begun (h : tHm cd A t T) : tHm cd (y1 A 1046 (upd (A 1046) t (A 1046 t + 1))) t (tBegun T) := by
  obtain ⟨h1, h2, h3, h4, h5, h6, h7, h8, h9, h10, h11, h12, h13, h14⟩ := h
  refine ⟨h1, h2, h3, h4, ?_, h6, h7, h8, h9, h10, h11, h12, h13, h14⟩
  show upd (A 1046) t (A 1046 t + 1) t = tBg T + 1
  rw [upd_same, h5]
theorem tHm_round (h : tHm cd A t T) : tHm cd (y1 A 1047 (upd (A 1047) t (A 1047 t + 1))) t (tRound T) := by
  obtain ⟨h1, h2, h3, h4, h5, h6, h7, h8, h9, h10, h11, h12, h13, h14⟩ := h
  refine ⟨h1, h2, h3, h4, h5, ?_, h7, h8, h9, h10, h11, h12, h13, h14⟩
  show upd (A 1047) t (A 1047 t + 1) t = tRd T + 1
  rw [upd_same, h6]
theorem tHm_fail (h : tHm cd A t T) {k : Nat} (hk : k < pGs cd (tP T)) : tHm cd (y1 A 1050 (upd (A 1050) (t * 48 + k) (A 1050 (t * 48 + k) + 1))) t (tFail k T) := by
  obtain ⟨h1, h2, h3, h4, h5, h6, h7, h8, h9, h10, h11, h12, h13, h14⟩ := h
  refine ⟨h1, h2, h3, h4, h5, h6, h7, h8, fun j hj => ?_, h10, h11, h12, h13, h14⟩
  obtain ⟨q1, q2, q3, q4⟩ := h9 j hj
  refine ⟨q1, ?_, q3, q4⟩
  show upd (A 1050) (t * 48 + k) (A 1050 (t * 48 + k) + 1) (t * 48 + j) = upd (tFl T) k (tFl T k + 1) j
  by_cases e : j = k
  · rw [e, upd_same, upd_same, (h9 k hk).2.1]
  · rw [upd_ne _ _ (by omega), upd_ne _ _ e]
    exact q2
theorem tHm_cut (h : tHm cd A t T) {k : Nat} (hk : k < pGs cd (tP T)) : tHm cd (y1 (y1 A 1051 (upd (A 1051) (t * 48 + k) (A 1051 (t * 48 + k) + 1))) 1050 (upd (A 1050) (t * 48 + k) 0)) t (tCut k T) := by
  obtain ⟨h1, h2, h3, h4, h5, h6, h7, h8, h9, h10, h11, h12, h13, h14⟩ := h
  refine ⟨h1, h2, h3, h4, h5, h6, h7, h8, fun j hj => ?_, h10, h11, h12, h13, h14⟩
  obtain ⟨q1, q2, q3, q4⟩ := h9 j hj
  refine ⟨q1, ?_, ?_, q4⟩
  · show upd (A 1050) (t * 48 + k) 0 (t * 48 + j) = upd (tFl T) k 0 j
    by_cases e : j = k
    · rw [e, upd_same, upd_same]
    · rw [upd_ne _ _ (by omega), upd_ne _ _ e]
      exact q2
  · show upd (A 1051) (t * 48 + k) (A 1051 (t * 48 + k) + 1) (t * 48 + j) = upd (tCt T) k (tCt T k + 1) j
    by_cases e : j = k
    · rw [e, upd_same, upd_same, (h9 k hk).2.2.1]
    · rw [upd_ne _ _ (by omega), upd_ne _ _ e]
      exact q3
theorem slo48 {p k : Nat} (hp : p = 1041 ∨ p = 1042 ∨ p = 1049 ∨ p = 1050 ∨ p = 1051 ∨ p = 1052) (hk : k < 48) : slo p (t * 48 + k) = t := by
  unfold slo
  rw [if_pos hp]
  omega
end SLO
section CUTM
variable {d : Nat} {c : zm} {s : ms} {th : Nat} {pn : Int32} {X : xs} {sl : Nat → Option Nat}
theorem RMr_none {I : Nat → Int32} {A : Nat → Nat → Int32} (h : I 42 = -1) : RMr I A sl none := h
theorem c9_cutOff {F : zm → Prop} (R : RM th pn s X) {r : rk} (hr : xR X = some r) (h2 : ∀ k, r.2.1 = some k → ∃ T, xT X r.1 = some T ∧ k < pGs (xC X) (tP T)) (k : ∀ s', RM th pn s' (xCut X) → F (put c s')) : zGo d m_X9_cutOff 0 [.ref 1031] [] (yz (put c s)) (zKv F) := by
  obtain ⟨sl, Ra, Rr, Rt⟩ := R
  rw [hr] at Rr
  obtain ⟨r1, r2, r3, r4, r5, r6⟩ := Rr
  refine B_X9_cutOff_0 ?_
  have g1 : yI (put c s) 1031 42 = Int32.ofNat r.1 := r2
  unfold xCut at k
  rw [hr] at k
  dsimp only at k
  cases hk : r.2.1 with
  | none =>
    rw [hk] at r3 k
    have g2 : yI (put c s) 1031 43 = -1 := r3
    rw [g2, g1, n_cl (by omega)]
    refine ⟨fun _ => ⟨n_in r1 (by decide), n_in r1 (by decide), n_in r1 (by decide), ?_⟩, fun z => absurd (show (-1 : Int32) < 0 by decide) z⟩
    rw [show yL (put c s) 1031 18 = sL s 18 from rfl, show yA (put c s) 1038 = sA s 1038 from rfl, p_L, p_A _ _ _ _ _ rfl, p_A _ _ _ _ _ rfl, p_I]
    refine k _ ⟨sl, ?_, rfl, Rt.keep ((tmk_A _ _ (by decide)).trans (tmk_A _ _ (by decide))) rfl rfl⟩
    have e38 : sA s 1038 = xCu X := Ra.2.2.2.2.2.2.2.2.2.2.2.2.2.2.1
    have R1 := ((((Ra.n4 1).heat r.1 0).cuts r.1 (sA s 1038 r.1 + 1)).I (b := 42) (-1) (by decide))
    rw [e38] at R1
    rw [e38]
    exact R1.xx ⟨_, _, rfl⟩
  | some j =>
    rw [hk] at r3 k
    obtain ⟨k1, t, t1, t2, t3, t4⟩ := r3
    have g2 : yI (put c s) 1031 43 = Int32.ofNat t := t3
    have g3 : yI (put c s) 1031 44 = Int32.ofNat j := t4
    rw [g2, g3, n_neg (by omega), n_48, n_cl (by omega)]
    refine ⟨fun z => z.elim, fun _ => ⟨n_in (by omega) (by decide), n_in (by omega) (by decide), n_in (by omega) (by decide), ?_⟩⟩
    rw [show yL (put c s) 1031 18 = sL s 18 from rfl, show yA (put c s) 1051 = sA s 1051 from rfl, p_L, p_A _ _ _ _ _ rfl, p_A _ _ _ _ _ rfl, p_I]
    obtain ⟨T, hT, hj⟩ := h2 j hk
    obtain ⟨z1, T', z2, z3⟩ := Rt.2.2.1 t r.1 t1 t2
    rw [hT] at z2
    cases z2
    refine k _ ⟨sl, ?_, rfl, ?_⟩
    · have R1 := (((Ra.n4 1).A (p := 1051) (upd (sA s 1051) (t * 48 + j) (sA s 1051 (t * 48 + j) + 1)) (by decide)).A (p := 1050) (upd (sA s 1050) (t * 48 + j) 0) (by decide)).I (b := 42) (-1) (by decide)
      exact R1.xx ⟨_, _, rfl⟩
    · refine Rt.set (T' := tCut j T) t1 t2 ((sfr_upd _ _ (Or.inl (slo48 (by decide) k1))).trans (sfr_upd _ _ (Or.inl (slo48 (by decide) k1)))) rfl ?_ rfl (tHm_cut z3 hj)
      show nSet (xT X) r.1 ((xT X r.1).map (tCut j)) = nSet (xT X) r.1 (some (tCut j T))
      rw [hT]
      rfl
end CUTM
