/-! a run of the small machine is one of the machine's own -/
theorem zstepA_mono {i : zI} {pc : Nat} {ls st : List Value} {h : zS} {c' : zC} (hs : zstepA i pc ls st h = some c') : h.1 ≤ c'.2.2.2.1 ∧ h.2.1 ≤ c'.2.2.2.2.1 := by
  have r0 : h.1 ≤ h.1 ∧ h.2.1 ≤ h.2.1 := ⟨Nat.le_refl _, Nat.le_refl _⟩
  obtain ⟨i, len, a, b, kk9, q⟩ := i
  cases i with
  | iconst n => have e9 := z_psh_inv hs; subst e9; exact r0
  | bipush n => have e9 := z_psh_inv hs; subst e9; exact r0
  | sipush n => have e9 := z_psh_inv hs; subst e9; exact r0
  | lconst n => have e9 := z_psh_inv hs; subst e9; exact r0
  | aconst_null => have e9 := z_psh_inv hs; subst e9; exact r0
  | ldc n => have e9 := z_psh_inv hs; subst e9; exact r0
  | ldc_w n => have e9 := z_psh_inv hs; subst e9; exact r0
  | iload_n n => obtain ⟨x, h1, rfl⟩ := z_ild_inv hs; exact r0
  | iload n => obtain ⟨x, h1, rfl⟩ := z_ild_inv hs; exact r0
  | lload_n n => obtain ⟨x, h1, rfl⟩ := z_lld_inv hs; exact r0
  | lload n => obtain ⟨x, h1, rfl⟩ := z_lld_inv hs; exact r0
  | aload_n n => rcases z_ald_inv hs with ⟨x, h1, rfl⟩ | ⟨h1, rfl⟩ <;> exact r0
  | aload n => rcases z_ald_inv hs with ⟨x, h1, rfl⟩ | ⟨h1, rfl⟩ <;> exact r0
  | istore_n n => obtain ⟨x, r, l', rfl, h1, rfl⟩ := z_ist_inv hs; exact r0
  | istore n => obtain ⟨x, r, l', rfl, h1, rfl⟩ := z_ist_inv hs; exact r0
  | lstore_n n => obtain ⟨x, r, l', rfl, h1, rfl⟩ := z_lst_inv hs; exact r0
  | lstore n => obtain ⟨x, r, l', rfl, h1, rfl⟩ := z_lst_inv hs; exact r0
  | astore_n n => rcases z_ast_inv hs with ⟨x, r, l', rfl, h1, rfl⟩ | ⟨r, l', rfl, h1, rfl⟩ <;> exact r0
  | astore n => rcases z_ast_inv hs with ⟨x, r, l', rfl, h1, rfl⟩ | ⟨r, l', rfl, h1, rfl⟩ <;> exact r0
  | iinc n z => obtain ⟨x, l', h0', h1, rfl⟩ := z_inc_inv hs; exact r0
  | iadd => obtain ⟨x, z, r, rfl, rfl⟩ := z_i2_inv hs; exact r0
  | isub => obtain ⟨x, z, r, rfl, rfl⟩ := z_i2_inv hs; exact r0
  | imul => obtain ⟨x, z, r, rfl, rfl⟩ := z_i2_inv hs; exact r0
  | iand => obtain ⟨x, z, r, rfl, rfl⟩ := z_i2_inv hs; exact r0
  | ior => obtain ⟨x, z, r, rfl, rfl⟩ := z_i2_inv hs; exact r0
  | ixor => obtain ⟨x, z, r, rfl, rfl⟩ := z_i2_inv hs; exact r0
  | ishl => obtain ⟨x, z, r, rfl, rfl⟩ := z_i2_inv hs; exact r0
  | ishr => obtain ⟨x, z, r, rfl, rfl⟩ := z_i2_inv hs; exact r0
  | idiv => obtain ⟨x, z, r, rfl, hne, rfl⟩ := z_dv_inv hs; exact r0
  | irem => obtain ⟨x, z, r, rfl, hne, rfl⟩ := z_dv_inv hs; exact r0
  | ineg => obtain ⟨x, r, rfl, rfl⟩ := z_i1_inv hs; exact r0
  | ladd => obtain ⟨x, z, r, rfl, rfl⟩ := z_l2_inv hs; exact r0
  | lsub => obtain ⟨x, z, r, rfl, rfl⟩ := z_l2_inv hs; exact r0
  | lcmp => obtain ⟨x, z, r, rfl, rfl⟩ := z_lcmp_inv hs; exact r0
  | i2l => obtain ⟨x, r, rfl, rfl⟩ := z_i2l_inv hs; exact r0
  | dup => obtain ⟨v, r, rfl, h1, rfl⟩ := z_dup_inv hs; exact r0
  | dup_x1 => obtain ⟨v, w, r, rfl, h1, h2, rfl⟩ := z_dupx1_inv hs; exact r0
  | dup2 => obtain ⟨v, w, r, rfl, h1, h2, rfl⟩ := z_dup2_inv hs; exact r0
  | pop => obtain ⟨v, r, rfl, h1, rfl⟩ := z_pop_inv hs; exact r0
  | goto z =>
    have e9 : (a, ls, st, h) = c' := Option.some.inj hs
    subst e9
    exact r0
  | ifCond w z =>
    have hs : z_if w a (pc + 3) ls st h = some c' := hs
    obtain ⟨x, r, rfl, -⟩ := z_if_inv hs
    unfold z_if at hs
    cases w <;> (dsimp only at hs; split at hs <;> (cases hs; exact r0))
  | if_icmp w z =>
    have hs : z_ic w a (pc + 3) ls st h = some c' := hs
    obtain ⟨x, y, r, rfl, -⟩ := z_ic_inv hs
    unfold z_ic at hs
    cases w <;> (dsimp only at hs; split at hs <;> (cases hs; exact r0))
  | ifnull z => rcases z_nul_inv hs with ⟨r, rfl, rfl⟩ | ⟨x, r, rfl, rfl⟩ <;> exact r0
  | ifnonnull z => rcases z_nul_inv hs with ⟨r, rfl, rfl⟩ | ⟨x, r, rfl, rfl⟩ <;> exact r0
  | getfield z => obtain ⟨p0, r, fs, v, rfl, hg, hv, rfl⟩ := z_getf_inv hs; exact r0
  | putfield z => obtain ⟨v, p0, r, fs, rfl, hg, hlen, hp1, hfit, rfl⟩ := z_putf_inv hs; exact r0
  | getstatic z => have e9 := z_psh_inv hs; subst e9; exact r0
  | iaload => obtain ⟨i, p0, r, t, n, f, rfl, hg, ht, hin, rfl⟩ := z_iald_inv hs; exact r0
  | baload => obtain ⟨i, p0, r, n, f, rfl, hg, hin, rfl⟩ := z_zald_inv hs; exact r0
  | laload => obtain ⟨i, p0, r, n, f, rfl, hg, hin, rfl⟩ := z_lald_inv hs; exact r0
  | aaload => obtain ⟨i, p0, r, t, n, f, rfl, hg, ht, hin, rfl⟩ := z_aald_inv hs; exact r0
  | iastore => obtain ⟨x, i, p0, r, n, f, rfl, hg, hp1, hin, rfl⟩ := z_iast_inv hs; exact r0
  | bastore => obtain ⟨x, i, p0, r, n, f, rfl, hg, hp1, hin, rfl⟩ := z_zast_inv hs; exact r0
  | lastore => obtain ⟨x, i, p0, r, n, f, rfl, hg, hp1, hin, rfl⟩ := z_last_inv hs; exact r0
  | aastore => rcases z_aast_inv hs with ⟨v, i, p0, r, t, n, f, ci, vs, rfl, hg, hv, ht, rfl, hp1, hin, rfl⟩ | ⟨i, p0, r, t, n, f, rfl, hg, ht, hp1, hin, rfl⟩ <;> exact r0
  | arraylength => obtain ⟨p0, r, t, n, f, rfl, hg, rfl⟩ := z_alen_inv hs; exact r0
  | new z =>
    obtain ⟨w1, w2⟩ := zcond hs
    have e9 : (pc + 3, ls, Value.ref h.1 :: st, znew h b (.inr (a, zdef a))) = c' := Option.some.inj w2
    subst e9
    exact ⟨Nat.le_succ _, Nat.le_add_right _ _⟩
  | newarray z => obtain ⟨n, r, rfl, hn0, hn1, rfl⟩ := z_newa_inv hs; exact ⟨Nat.le_succ _, Nat.le_add_right _ _⟩
  | anewarray z => obtain ⟨n, r, rfl, hn0, hn1, rfl⟩ := z_newq_inv hs; exact ⟨Nat.le_succ _, Nat.le_add_right _ _⟩
  | invokestatic z =>
    by_cases w1 : kk9 = 3
    · subst w1
      obtain ⟨n, dp, q0, sp, p0, r, n0, f, n1, g, rfl, hg0, hg1, hne, hq1, hp1, k1, k2, k3, k4, k5, hrl, rfl⟩ := z_cpy_inv hs
      exact r0
    · have hs : (bif Nat.beq kk9 3 then z_cpy (pc + 3) ls st h else bif Nat.beq kk9 4 then z_min (pc + 3) ls st h else none) = some c' := hs
      have w2 : Nat.beq kk9 3 = false := by
        cases hq : Nat.beq kk9 3
        · rfl
        · exact absurd (Nat.eq_of_beq_eq_true hq) w1
      rw [w2] at hs
      obtain ⟨w3, w4⟩ := zcond hs
      obtain ⟨x, z, r, rfl, hrl, rfl⟩ := z_min_inv w4
      exact r0
  | invokespecial z =>
    obtain ⟨w1, w2⟩ := zcond hs
    obtain ⟨p0, r, rfl, hrl, rfl⟩ := z_oinit_inv w2
    exact r0
  | _ => cases hs
theorem zstep_mono {y pc : Nat} {ls st : List Value} {h : zS} {c' : zC} (hs : zstep y pc ls st h = some c') : h.1 ≤ c'.2.2.2.1 ∧ h.2.1 ≤ c'.2.2.2.2.1 := by
  unfold zstep at hs
  cases he : ztab y pc with
  | none => rw [he] at hs; cases hs
  | some i =>
    rw [he] at hs
    rcases zstep1_inv hs with ⟨dd, lo, hi, os, h1, h2⟩ | ⟨h1, h2⟩
    · obtain ⟨x, r, rfl, hh⟩ := z_tsw_inv h2
      rcases hh with ⟨hc, rfl⟩ | ⟨hc, q9, hq, rfl⟩ <;> exact ⟨Nat.le_refl _, Nat.le_refl _⟩
    · exact zstepA_mono h2
theorem zend_mono {d y pc : Nat} {st : List Value} {h hf : zS} {r : zR} (he : zend d y pc st h = some (r, hf)) : h.1 ≤ hf.1 ∧ h.2.1 ≤ hf.2.1 := by
  rcases zend_inv he with ⟨i, a, b, q, ht, h6, hst, rfl, rfl⟩ | ⟨i, w, v, ht, hv, hfit, rfl, rfl⟩
  · exact ⟨Nat.le_succ _, Nat.le_add_right _ _⟩
  · exact ⟨Nat.le_refl _, Nat.le_refl _⟩
/-- what a run's next turn is -/
theorem zrun_inv {n d y pc : Nat} {ls st : List Value} {h hf : zS} {r : zR} (hr : zrun (n + 1) d y pc ls st h = some (r, hf)) :
    (∃ c, zstep y pc ls st h = some c ∧ zrun n d y c.1 c.2.1 c.2.2.1 c.2.2.2 = some (r, hf)) ∨ (zend d y pc st h = some (r, hf)) ∨
    (∃ d' a as rest, zcall y pc st h = some (a, as, rest) ∧ d = d' + 1 ∧ (zexp as).length ≤ zml a ∧
      ((∃ v h1, zrun n d' a 0 (zent a as) [] h = some (.inl v, h1) ∧ zrun n (d' + 1) y (pc + 3) ls (v.toList ++ rest) h1 = some (r, hf)) ∨
       (∃ E h1 k l, zrun n d' a 0 (zent a as) [] h = some (.inr E, h1) ∧ zkd a = 0 ∧ zhnd y pc E = some k ∧ zst1 ls k.1 zJ = some l ∧ zrun n (d' + 1) y k.2 l [] h1 = some (r, hf)))) := by
  rw [zrun] at hr
  cases hs : zstep y pc ls st h with
  | some c => rw [hs] at hr; exact Or.inl ⟨c, rfl, hr⟩
  | none =>
    rw [hs] at hr
    cases he : zend d y pc st h with
    | some r' => rw [he] at hr; cases hr; exact Or.inr (Or.inl rfl)
    | none =>
      rw [he] at hr
      cases hc : zcall y pc st h with
      | none => rw [hc] at hr; cases hr
      | some w =>
        rw [hc] at hr
        obtain ⟨a, as, rest⟩ := w
        cases d with
        | zero => cases hr
        | succ d' =>
          obtain ⟨h1, h2⟩ := zcond hr
          refine Or.inr (Or.inr ⟨d', a, as, rest, rfl, rfl, Nat.le_of_ble_eq_true h1, ?_⟩)
          dsimp only at h2
          split at h2
          · cases h2
          · rename_i v h1' hv
            exact Or.inl ⟨v, h1', hv, h2⟩
          · rename_i E h1' hv
            obtain ⟨h3, h4⟩ := zcond h2
            split at h4
            · cases h4
            · rename_i k hk
              split at h4
              · cases h4
              · rename_i l hl
                exact Or.inr ⟨E, h1', k, l, hv, Nat.eq_of_beq_eq_true h3, hk, hl, h4⟩
theorem zrun_size : ∀ (n d y pc : Nat) (ls st : List Value) (h : zS) (r : zR) (hf : zS), zrun n d y pc ls st h = some (r, hf) → h.1 ≤ hf.1 ∧ h.2.1 ≤ hf.2.1 := by
  intro n
  induction n with
  | zero => intro d y pc ls st h r hf hr; cases hr
  | succ n ih =>
    intro d y pc ls st h r hf hr
    rcases zrun_inv hr with ⟨c, h1, h2⟩ | h1 | ⟨d', a, as, rest, h1, h2, h3, ⟨v, h1', h4, h5⟩ | ⟨E, h1', k, l, h4, h5, h6, h7, h8⟩⟩
    · have a1 := zstep_mono h1
      have a2 := ih _ _ _ _ _ _ _ _ h2
      omega
    · exact zend_mono h1
    · have a1 := ih _ _ _ _ _ _ _ _ h4
      have a2 := ih _ _ _ _ _ _ _ _ h5
      omega
    · have a1 := ih _ _ _ _ _ _ _ _ h4
      have a2 := ih _ _ _ _ _ _ _ _ h8
      omega
theorem zrun_more : ∀ (n d y pc : Nat) (ls st : List Value) (h : zS) (r : zR × zS), zrun n d y pc ls st h = some r → ∀ m, n ≤ m → zrun m d y pc ls st h = some r := by
  intro n
  induction n with
  | zero => intro d y pc ls st h r hr; cases hr
  | succ n ih =>
    intro d y pc ls st h r hr m hm
    obtain ⟨m, rfl⟩ : ∃ k, m = k + 1 := ⟨m - 1, by omega⟩
    rw [zrun] at hr ⊢
    cases hs : zstep y pc ls st h with
    | some c =>
      rw [hs] at hr
      exact ih _ _ _ _ _ _ _ hr m (by omega)
    | none =>
      rw [hs] at hr
      cases he : zend d y pc st h with
      | some r' => rw [he] at hr; exact hr
      | none =>
        rw [he] at hr
        cases hc : zcall y pc st h with
        | none => rw [hc] at hr; cases hr
        | some w =>
          rw [hc] at hr
          obtain ⟨a, as, rest⟩ := w
          cases d with
          | zero => cases hr
          | succ d' =>
            dsimp only at hr ⊢
            obtain ⟨h1, h2⟩ := zcond hr
            rw [h1]
            dsimp only [cond_true]
            cases hq : zrun n d' a 0 (zent a as) [] h with
            | none => rw [hq] at h2; cases h2
            | some w =>
              rw [ih _ _ _ _ _ _ _ hq m (by omega)]
              rw [hq] at h2
              obtain ⟨w1, w2⟩ := w
              cases w1 with
              | inl v => exact ih _ _ _ _ _ _ _ h2 m (by omega)
              | inr E =>
                dsimp only at h2 ⊢
                obtain ⟨h3, h4⟩ := zcond h2
                rw [h3]
                dsimp only [cond_true]
                cases hk : zhnd y pc E with
                | none => rw [hk] at h4; cases h4
                | some k =>
                  rw [hk] at h4
                  dsimp only at h4 ⊢
                  cases hl : zst1 ls k.1 zJ with
                  | none => rw [hl] at h4; cases h4
                  | some l =>
                    rw [hl] at h4
                    exact ih _ _ _ _ _ _ _ h4 m (by omega)
