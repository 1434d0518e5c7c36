/-! each step of the small machine, read backward -/
section ZINV
variable {pc : Nat} {ls st : List Value} {h : zS} {c' : zC}
theorem z_psh_inv {v : Value} (hs : z_psh v pc ls st h = some c') : c' = (pc, ls, v :: st, h) := (Option.some.inj hs).symm
theorem z_ild_inv {k : Nat} (hs : z_ild k pc ls st h = some c') : ∃ x, ls[k]? = some (.int x) ∧ c' = (pc, ls, .int x :: st, h) := by
  unfold z_ild at hs
  split at hs
  · exact ⟨_, by assumption, (Option.some.inj hs).symm⟩
  · cases hs
theorem z_lld_inv {k : Nat} (hs : z_lld k pc ls st h = some c') : ∃ x, ls[k]? = some (.long x) ∧ c' = (pc, ls, .long x :: st, h) := by
  unfold z_lld at hs
  split at hs
  · exact ⟨_, by assumption, (Option.some.inj hs).symm⟩
  · cases hs
theorem z_ald_inv {k : Nat} (hs : z_ald k pc ls st h = some c') : (∃ x, ls[k]? = some (.ref x) ∧ c' = (pc, ls, .ref x :: st, h)) ∨ (ls[k]? = some .null ∧ c' = (pc, ls, .null :: st, h)) := by
  unfold z_ald at hs
  split at hs
  · exact Or.inl ⟨_, by assumption, (Option.some.inj hs).symm⟩
  · exact Or.inr ⟨by assumption, (Option.some.inj hs).symm⟩
  · cases hs
theorem z_ist_inv {k : Nat} (hs : z_ist k pc ls st h = some c') : ∃ x r l, st = .int x :: r ∧ zst1 ls k (.int x) = some l ∧ c' = (pc, l, r, h) := by
  unfold z_ist at hs
  split at hs
  · split at hs
    · exact ⟨_, _, _, by first | rfl | assumption, by assumption, (Option.some.inj hs).symm⟩
    · cases hs
  · cases hs
theorem z_lst_inv {k : Nat} (hs : z_lst k pc ls st h = some c') : ∃ x r l, st = .long x :: r ∧ zst2 ls k (.long x) = some l ∧ c' = (pc, l, r, h) := by
  unfold z_lst at hs
  split at hs
  · split at hs
    · exact ⟨_, _, _, by first | rfl | assumption, by assumption, (Option.some.inj hs).symm⟩
    · cases hs
  · cases hs
theorem z_ast_inv {k : Nat} (hs : z_ast k pc ls st h = some c') : (∃ x r l, st = .ref x :: r ∧ zst1 ls k (.ref x) = some l ∧ c' = (pc, l, r, h)) ∨ (∃ r l, st = .null :: r ∧ zst1 ls k .null = some l ∧ c' = (pc, l, r, h)) := by
  unfold z_ast at hs
  split at hs
  · split at hs
    · exact Or.inl ⟨_, _, _, by first | rfl | assumption, by assumption, (Option.some.inj hs).symm⟩
    · cases hs
  · split at hs
    · exact Or.inr ⟨_, _, by first | rfl | assumption, by assumption, (Option.some.inj hs).symm⟩
    · cases hs
  · cases hs
theorem z_inc_inv {k : Nat} {n : Int} (hs : z_inc k n pc ls st h = some c') : ∃ x l, ls[k]? = some (.int x) ∧ zst1 ls k (.int (x + Int32.ofInt n)) = some l ∧ c' = (pc, l, st, h) := by
  unfold z_inc at hs
  split at hs
  · split at hs
    · exact ⟨_, _, by assumption, by assumption, (Option.some.inj hs).symm⟩
    · cases hs
  · cases hs
theorem z_i1_inv {f : Int32 → Int32} (hs : z_i1 f pc ls st h = some c') : ∃ x r, st = .int x :: r ∧ c' = (pc, ls, .int (f x) :: r, h) := by
  unfold z_i1 at hs
  split at hs
  · exact ⟨_, _, by first | rfl | assumption, (Option.some.inj hs).symm⟩
  · cases hs
theorem z_i2_inv {f : Int32 → Int32 → Int32} (hs : z_i2 f pc ls st h = some c') : ∃ x y r, st = .int y :: .int x :: r ∧ c' = (pc, ls, .int (f x y) :: r, h) := by
  unfold z_i2 at hs
  split at hs
  · exact ⟨_, _, _, by first | rfl | assumption, (Option.some.inj hs).symm⟩
  · cases hs
theorem z_dv_inv {f : Int32 → Int32 → Int32} (hs : z_dv f pc ls st h = some c') : ∃ x y r, st = .int y :: .int x :: r ∧ ¬ y = 0 ∧ c' = (pc, ls, .int (f x y) :: r, h) := by
  unfold z_dv at hs
  split at hs
  · split at hs
    · cases hs
    · exact ⟨_, _, _, by first | rfl | assumption, by assumption, (Option.some.inj hs).symm⟩
  · cases hs
theorem z_l2_inv {f : Int64 → Int64 → Int64} (hs : z_l2 f pc ls st h = some c') : ∃ x y r, st = .long y :: .long x :: r ∧ c' = (pc, ls, .long (f x y) :: r, h) := by
  unfold z_l2 at hs
  split at hs
  · exact ⟨_, _, _, by first | rfl | assumption, (Option.some.inj hs).symm⟩
  · cases hs
theorem z_lcmp_inv (hs : z_lcmp pc ls st h = some c') : ∃ x y r, st = .long y :: .long x :: r ∧ c' = (pc, ls, .int (lg_cmp x y) :: r, h) := by
  unfold z_lcmp at hs
  split at hs
  · exact ⟨_, _, _, by first | rfl | assumption, (Option.some.inj hs).symm⟩
  · cases hs
theorem z_i2l_inv (hs : z_i2l pc ls st h = some c') : ∃ x r, st = .int x :: r ∧ c' = (pc, ls, .long x.toInt64 :: r, h) := by
  unfold z_i2l at hs
  split at hs
  · exact ⟨_, _, by first | rfl | assumption, (Option.some.inj hs).symm⟩
  · cases hs
theorem zcond {α : Type} {b : Bool} {x : Option α} {r : α} (hs : (bif b then x else none) = some r) : b = true ∧ x = some r := by
  cases b
  · cases hs
  · exact ⟨rfl, hs⟩
theorem zcondN {α : Type} {b : Bool} {x : Option α} {r : α} (hs : (bif b then none else x) = some r) : b = false ∧ x = some r := by
  cases b
  · exact ⟨rfl, hs⟩
  · cases hs
theorem zite {α : Type} {p : Prop} [Decidable p] {x : Option α} {r : α} (hs : (if p then none else x) = some r) : ¬ p ∧ x = some r := by
  by_cases hp : p
  · rw [if_pos hp] at hs; cases hs
  · rw [if_neg hp] at hs; exact ⟨hp, hs⟩
theorem z_dup_inv (hs : z_dup pc ls st h = some c') : ∃ v r, st = v :: r ∧ zisL v = false ∧ c' = (pc, ls, v :: v :: r, h) := by
  unfold z_dup at hs
  split at hs
  · obtain ⟨h1, h2⟩ := zcondN hs
    exact ⟨_, _, by first | rfl | assumption, h1, (Option.some.inj h2).symm⟩
  · cases hs
theorem z_dupx1_inv (hs : z_dupx1 pc ls st h = some c') : ∃ v w r, st = v :: w :: r ∧ zisL v = false ∧ zisL w = false ∧ c' = (pc, ls, v :: w :: v :: r, h) := by
  unfold z_dupx1 at hs
  split at hs
  · obtain ⟨h1, h2⟩ := zcondN hs
    rw [Bool.or_eq_false_iff] at h1
    exact ⟨_, _, _, by first | rfl | assumption, h1.1, h1.2, (Option.some.inj h2).symm⟩
  · cases hs
theorem z_dup2_inv (hs : z_dup2 pc ls st h = some c') : ∃ v w r, st = v :: w :: r ∧ zisL v = false ∧ zisL w = false ∧ c' = (pc, ls, v :: w :: v :: w :: r, h) := by
  unfold z_dup2 at hs
  split at hs
  · obtain ⟨h1, h2⟩ := zcondN hs
    rw [Bool.or_eq_false_iff] at h1
    exact ⟨_, _, _, by first | rfl | assumption, h1.1, h1.2, (Option.some.inj h2).symm⟩
  · cases hs
theorem z_pop_inv (hs : z_pop pc ls st h = some c') : ∃ v r, st = v :: r ∧ zisL v = false ∧ c' = (pc, ls, r, h) := by
  unfold z_pop at hs
  split at hs
  · obtain ⟨h1, h2⟩ := zcondN hs
    exact ⟨_, _, by first | rfl | assumption, h1, (Option.some.inj h2).symm⟩
  · cases hs
theorem z_if_inv {q : Jvm.ClassFile.Cond} {tg : Nat} (hs : z_if q tg pc ls st h = some c') : ∃ x r, st = .int x :: r ∧ z_if q tg pc ls (.int x :: r) h = some c' := by
  match st, hs with
  | .int x :: r, hs => exact ⟨x, r, rfl, hs⟩
  | [], hs => cases hs
  | .long _ :: _, hs => cases hs
  | .float _ :: _, hs => cases hs
  | .double _ :: _, hs => cases hs
  | .null :: _, hs => cases hs
  | .ref _ :: _, hs => cases hs
  | .retAddr _ :: _, hs => cases hs
theorem z_ic_inv {q : Jvm.ClassFile.Cond} {tg : Nat} (hs : z_ic q tg pc ls st h = some c') : ∃ x y r, st = .int y :: .int x :: r ∧ z_ic q tg pc ls (.int y :: .int x :: r) h = some c' := by
  have hs0 := hs
  unfold z_ic at hs
  split at hs
  · exact ⟨_, _, _, by first | rfl | assumption, by first | exact hs0 | (simp_all)⟩
  · cases hs
theorem z_nul_inv {isn : Bool} {tg : Nat} (hs : z_nul isn tg pc ls st h = some c') : (∃ r, st = .null :: r ∧ c' = ((bif isn then tg else pc), ls, r, h)) ∨ (∃ x r, st = .ref x :: r ∧ c' = ((bif isn then pc else tg), ls, r, h)) := by
  unfold z_nul at hs
  split at hs
  · refine Or.inl ⟨_, by first | rfl | assumption, ?_⟩
    cases isn <;> exact (Option.some.inj hs).symm
  · refine Or.inr ⟨_, _, by first | rfl | assumption, ?_⟩
    cases isn <;> exact (Option.some.inj hs).symm
  · cases hs
theorem z_tsw_inv {d lo hi : Int} {os : Array Int} (hs : z_tsw d lo hi os pc ls st h = some c') : ∃ x r, st = .int x :: r ∧ (((x.toInt < lo ∨ hi < x.toInt) ∧ c' = (((pc : Int) + d).toNat, ls, r, h)) ∨ (¬ (x.toInt < lo ∨ hi < x.toInt) ∧ ∃ q, os[(x.toInt - lo).toNat]? = some q ∧ c' = (((pc : Int) + q).toNat, ls, r, h))) := by
  unfold z_tsw at hs
  split at hs
  · split at hs
    · exact ⟨_, _, by first | rfl | assumption, Or.inl ⟨by assumption, (Option.some.inj hs).symm⟩⟩
    · split at hs
      · exact ⟨_, _, by first | rfl | assumption, Or.inr ⟨by assumption, _, by assumption, (Option.some.inj hs).symm⟩⟩
      · cases hs
  · cases hs
theorem z_getf_inv {a b : Nat} (hs : z_getf a b pc ls st h = some c') : ∃ p r fs v, st = .ref p :: r ∧ h.2.2 p = some (.inr (a, fs)) ∧ fs[b]? = some v ∧ c' = (pc, ls, v :: r, h) := by
  unfold z_getf at hs
  split at hs
  · split at hs
    · rename_i ci fs hg
      obtain ⟨h1, h2⟩ := zcond hs
      have h1 := Nat.eq_of_beq_eq_true h1
      subst h1
      split at h2
      · exact ⟨_, _, _, _, by first | rfl | assumption, hg, by assumption, (Option.some.inj h2).symm⟩
      · cases h2
    · cases hs
  · cases hs
theorem z_putf_inv {a b : Nat} (hs : z_putf a b pc ls st h = some c') : ∃ v p r fs, st = v :: .ref p :: r ∧ h.2.2 p = some (.inr (a, fs)) ∧ b < fs.length ∧ 1000 ≤ p ∧ zfit (zty a b) v = true ∧ c' = (pc, ls, r, zput h p (.inr (a, fs.set b v))) := by
  unfold z_putf at hs
  split at hs
  · split at hs
    · rename_i ci fs hg
      obtain ⟨h1, h2⟩ := zcond hs
      simp only [Bool.and_eq_true] at h1
      obtain ⟨⟨⟨h3, h4⟩, h5⟩, h6⟩ := h1
      have h3 := Nat.eq_of_beq_eq_true h3
      subst h3
      exact ⟨_, _, _, _, by first | rfl | assumption, hg, zblt h4, Nat.le_of_ble_eq_true h5, h6, (Option.some.inj h2).symm⟩
    · cases hs
  · cases hs
theorem z_iald_inv (hs : z_iald pc ls st h = some c') : ∃ i p r t n f, st = .int i :: .ref p :: r ∧ h.2.2 p = some (.inl (t, n, .inl f)) ∧ (t = 0 ∨ t = 9) ∧ vp_in i n ∧ c' = (pc, ls, .int (f i.toNatClampNeg) :: r, h) := by
  unfold z_iald at hs
  split at hs
  · split at hs
    · rename_i t n f hg
      obtain ⟨h1, h2⟩ := zite hs
      exact ⟨_, _, _, t, n, f, by first | rfl | assumption, hg, Decidable.byContradiction fun q => h1 (Or.inl q), fun q => h1 (Or.inr q), (Option.some.inj h2).symm⟩
    · cases hs
  · cases hs
theorem z_zald_inv (hs : z_zald pc ls st h = some c') : ∃ i p r n f, st = .int i :: .ref p :: r ∧ h.2.2 p = some (.inl (2, n, .inl f)) ∧ vp_in i n ∧ c' = (pc, ls, .int (f i.toNatClampNeg) :: r, h) := by
  unfold z_zald at hs
  split at hs
  · split at hs
    · rename_i t n f hg
      obtain ⟨h1, h2⟩ := zite hs
      have ht : t = 2 := Decidable.byContradiction fun q => h1 (Or.inl q)
      subst ht
      exact ⟨_, _, _, n, f, by first | rfl | assumption, hg, fun q => h1 (Or.inr q), (Option.some.inj h2).symm⟩
    · cases hs
  · cases hs
theorem z_lald_inv (hs : z_lald pc ls st h = some c') : ∃ i p r n f, st = .int i :: .ref p :: r ∧ h.2.2 p = some (.inl (1, n, .inr (.inl f))) ∧ vp_in i n ∧ c' = (pc, ls, .long (f i.toNatClampNeg) :: r, h) := by
  unfold z_lald at hs
  split at hs
  · split at hs
    · rename_i t n f hg
      obtain ⟨h1, h2⟩ := zite hs
      have ht : t = 1 := Decidable.byContradiction fun q => h1 (Or.inl q)
      subst ht
      exact ⟨_, _, _, n, f, by first | rfl | assumption, hg, fun q => h1 (Or.inr q), (Option.some.inj h2).symm⟩
    · cases hs
  · cases hs
theorem z_aald_inv (hs : z_aald pc ls st h = some c') : ∃ i p r t n f, st = .int i :: .ref p :: r ∧ h.2.2 p = some (.inl (t, n, .inr (.inr (.inr (.inr f))))) ∧ (t = 3 ∨ t = 4) ∧ vp_in i n ∧ c' = (pc, ls, va_rf (f i.toNatClampNeg) :: r, h) := by
  unfold z_aald at hs
  split at hs
  · split at hs
    · rename_i t n f hg
      obtain ⟨h1, h2⟩ := zite hs
      exact ⟨_, _, _, t, n, f, by first | rfl | assumption, hg, Decidable.byContradiction fun q => h1 (Or.inl q), fun q => h1 (Or.inr q), (Option.some.inj h2).symm⟩
    · cases hs
  · cases hs
theorem z_iast_inv (hs : z_iast pc ls st h = some c') : ∃ x i p r n f, st = .int x :: .int i :: .ref p :: r ∧ h.2.2 p = some (.inl (0, n, .inl f)) ∧ 1000 ≤ p ∧ vp_in i n ∧ c' = (pc, ls, r, zput h p (.inl (0, n, .inl (upd f i.toNatClampNeg x)))) := by
  unfold z_iast at hs
  split at hs
  · split at hs
    · rename_i t n f hg
      obtain ⟨h1, h2⟩ := zite hs
      have ht : t = 0 := Decidable.byContradiction fun q => h1 (Or.inl q)
      subst ht
      exact ⟨_, _, _, _, n, f, by first | rfl | assumption, hg, Nat.not_lt.mp fun q => h1 (Or.inr (Or.inl q)), fun q => h1 (Or.inr (Or.inr q)), (Option.some.inj h2).symm⟩
    · cases hs
  · cases hs
theorem z_zast_inv (hs : z_zast pc ls st h = some c') : ∃ x i p r n f, st = .int x :: .int i :: .ref p :: r ∧ h.2.2 p = some (.inl (2, n, .inl f)) ∧ 1000 ≤ p ∧ vp_in i n ∧ c' = (pc, ls, r, zput h p (.inl (2, n, .inl (upd f i.toNatClampNeg (vp_nar .boolean x))))) := by
  unfold z_zast at hs
  split at hs
  · split at hs
    · rename_i t n f hg
      obtain ⟨h1, h2⟩ := zite hs
      have ht : t = 2 := Decidable.byContradiction fun q => h1 (Or.inl q)
      subst ht
      exact ⟨_, _, _, _, n, f, by first | rfl | assumption, hg, Nat.not_lt.mp fun q => h1 (Or.inr (Or.inl q)), fun q => h1 (Or.inr (Or.inr q)), (Option.some.inj h2).symm⟩
    · cases hs
  · cases hs
theorem z_last_inv (hs : z_last pc ls st h = some c') : ∃ x i p r n f, st = .long x :: .int i :: .ref p :: r ∧ h.2.2 p = some (.inl (1, n, .inr (.inl f))) ∧ 1000 ≤ p ∧ vp_in i n ∧ c' = (pc, ls, r, zput h p (.inl (1, n, .inr (.inl (vp_updL f i.toNatClampNeg x))))) := by
  unfold z_last at hs
  split at hs
  · split at hs
    · rename_i t n f hg
      obtain ⟨h1, h2⟩ := zite hs
      have ht : t = 1 := Decidable.byContradiction fun q => h1 (Or.inl q)
      subst ht
      exact ⟨_, _, _, _, n, f, by first | rfl | assumption, hg, Nat.not_lt.mp fun q => h1 (Or.inr (Or.inl q)), fun q => h1 (Or.inr (Or.inr q)), (Option.some.inj h2).symm⟩
    · cases hs
  · cases hs
theorem z_aast_inv (hs : z_aast pc ls st h = some c') : (∃ q i p r t n f ci vs, st = .ref q :: .int i :: .ref p :: r ∧ h.2.2 p = some (.inl (t, n, .inr (.inr (.inr (.inr f))))) ∧ h.2.2 q = some (.inr (ci, vs)) ∧ (t = 3 ∨ t = 4) ∧ ci = zac t ∧ 1000 ≤ p ∧ vp_in i n ∧ c' = (pc, ls, r, zput h p (.inl (t, n, .inr (.inr (.inr (.inr (va_up f i.toNatClampNeg (some q))))))))) ∨
    (∃ i p r t n f, st = .null :: .int i :: .ref p :: r ∧ h.2.2 p = some (.inl (t, n, .inr (.inr (.inr (.inr f))))) ∧ (t = 3 ∨ t = 4) ∧ 1000 ≤ p ∧ vp_in i n ∧ c' = (pc, ls, r, zput h p (.inl (t, n, .inr (.inr (.inr (.inr (va_up f i.toNatClampNeg none)))))))) := by
  unfold z_aast at hs
  split at hs
  · split at hs
    · rename_i t n f hg
      split at hs
      · rename_i ci vs hq
        obtain ⟨h1, h2⟩ := zite hs
        exact Or.inl ⟨_, _, _, _, t, n, f, ci, vs, by first | rfl | assumption, hg, hq, Decidable.byContradiction fun q => h1 (Or.inl q), Decidable.byContradiction fun q => h1 (Or.inr (Or.inl q)), Nat.not_lt.mp fun q => h1 (Or.inr (Or.inr (Or.inl q))), fun q => h1 (Or.inr (Or.inr (Or.inr q))), (Option.some.inj h2).symm⟩
      · cases hs
    · cases hs
  · split at hs
    · rename_i t n f hg
      obtain ⟨h1, h2⟩ := zite hs
      exact Or.inr ⟨_, _, _, t, n, f, by first | rfl | assumption, hg, Decidable.byContradiction fun q => h1 (Or.inl q), Nat.not_lt.mp fun q => h1 (Or.inr (Or.inl q)), fun q => h1 (Or.inr (Or.inr q)), (Option.some.inj h2).symm⟩
    · cases hs
  · cases hs
theorem z_alen_inv (hs : z_alen pc ls st h = some c') : ∃ p r t n x, st = .ref p :: r ∧ h.2.2 p = some (.inl (t, n, x)) ∧ c' = (pc, ls, .int (Int32.ofNat n) :: r, h) := by
  unfold z_alen at hs
  split at hs
  · split at hs
    · exact ⟨_, _, _, _, _, by first | rfl | assumption, by assumption, (Option.some.inj hs).symm⟩
    · cases hs
  · cases hs
theorem z_newa_inv {a : Nat} (hs : z_newa a pc ls st h = some c') : ∃ n r, st = .int n :: r ∧ ¬ n < 0 ∧ n.toNatClampNeg ≤ 100000 ∧ c' = (pc, ls, .ref h.1 :: r, znew h n.toNatClampNeg (.inl (a, n.toNatClampNeg, bif Nat.beq a 1 then .inr (.inl fun _ => 0) else .inl fun _ => 0))) := by
  unfold z_newa at hs
  split at hs
  · obtain ⟨h1, h2⟩ := zite hs
    exact ⟨_, _, by first | rfl | assumption, fun q => h1 (Or.inl q), Nat.not_lt.mp fun q => h1 (Or.inr q), (Option.some.inj h2).symm⟩
  · cases hs
theorem z_newq_inv {a : Nat} (hs : z_newq a pc ls st h = some c') : ∃ n r, st = .int n :: r ∧ ¬ n < 0 ∧ n.toNatClampNeg ≤ 100000 ∧ c' = (pc, ls, .ref h.1 :: r, znew h n.toNatClampNeg (.inl (a, n.toNatClampNeg, .inr (.inr (.inr (.inr fun _ => none)))))) := by
  unfold z_newq at hs
  split at hs
  · obtain ⟨h1, h2⟩ := zite hs
    exact ⟨_, _, by first | rfl | assumption, fun q => h1 (Or.inl q), Nat.not_lt.mp fun q => h1 (Or.inr q), (Option.some.inj h2).symm⟩
  · cases hs
theorem z_cpy_inv (hs : z_cpy pc ls st h = some c') : ∃ n dp q sp p r n0 f n1 g, st = .int n :: .int dp :: .ref q :: .int sp :: .ref p :: r ∧ h.2.2 p = some (.inl (0, n0, .inl f)) ∧ h.2.2 q = some (.inl (0, n1, .inl g)) ∧ p ≠ q ∧ 1000 ≤ q ∧ 1000 ≤ p ∧ ¬ sp < 0 ∧ ¬ dp < 0 ∧ ¬ n < 0 ∧ sp.toNatClampNeg + n.toNatClampNeg ≤ n0 ∧ dp.toNatClampNeg + n.toNatClampNeg ≤ n1 ∧ r.length ≤ 1 ∧
    c' = (pc, ls, r, zput h q (.inl (0, n1, .inl (va_cpy f g sp.toNatClampNeg dp.toNatClampNeg n.toNatClampNeg)))) := by
  unfold z_cpy at hs
  split at hs
  · split at hs
    · rename_i t n0 f t' n1 g hg hg'
      obtain ⟨h1, h2⟩ := zite hs
      simp only [not_or, Decidable.not_not] at h1
      obtain ⟨rfl, rfl, h5, h6, h7, h8, h9, h10, h11, h12, h13⟩ := h1
      exact ⟨_, _, _, _, _, _, n0, f, n1, g, by first | rfl | assumption, hg, hg', h5, Nat.not_lt.mp h6, Nat.not_lt.mp h7, h8, h9, h10, Nat.not_lt.mp h11, Nat.not_lt.mp h12, Nat.not_lt.mp h13, (Option.some.inj h2).symm⟩
    · cases hs
  · cases hs
theorem z_min_inv (hs : z_min pc ls st h = some c') : ∃ x y r, st = .int y :: .int x :: r ∧ r.length ≤ 4 ∧ c' = (pc, ls, .int (if y < x then y else x) :: r, h) := by
  unfold z_min at hs
  split at hs
  · obtain ⟨h1, h2⟩ := zcond hs
    exact ⟨_, _, _, by first | rfl | assumption, Nat.le_of_ble_eq_true h1, (Option.some.inj h2).symm⟩
  · cases hs
theorem z_oinit_inv (hs : z_oinit pc ls st h = some c') : ∃ p r, st = .ref p :: r ∧ r.length ≤ 4 ∧ c' = (pc, ls, r, h) := by
  unfold z_oinit at hs
  split at hs
  · obtain ⟨h1, h2⟩ := zcond hs
    exact ⟨_, _, by first | rfl | assumption, Nat.le_of_ble_eq_true h1, (Option.some.inj h2).symm⟩
  · cases hs
end ZINV
