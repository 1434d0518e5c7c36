/-! all steps that are no call and no end -/
theorem ztoNat {a : Int} (h : 0 ≤ a) : a = (a.toNat : Int) := by omega
section ZST3
variable {D : va_G} {b0 : Nat} {o sa : Nat → Nat} {y d : Nat} {h0 : zS} {p : Program} {l : Launch} {e : Env} {R : Room} {s : State} {m : MethodId} {args : Array Value} {below : List Frame} {meth : Method} {c : Code} {H : Heap} {locs : List Loc} {la : Array Slot} {cells slots : Nat} {Q : State → Prop}
variable {pc : Nat} {ls st : List Value} {h : zS}
set_option maxHeartbeats 8000000 in
theorem zs_tsw (M : zMx D b0 o sa y d p l R s m args meth c) {dd lo hi : Int} {os : Array Int} {len a b kk9 q : Nat} (hd : decode (zcode y) pc = .ok (.tableswitch dd lo hi os, len)) (hX : zokX y pc (.tableswitch dd lo hi os, len, a, b, kk9, q) = true) (S : zSt D b0 o y h0 s h ls H locs la cells slots) {c' : zC}
    (hs : z_tsw dd lo hi os pc ls st h = some c') (k : zK D b0 o y h0 p l e R s m args below meth c Q c') : W p l e R s m args below meth c H locs cells slots Q (F0 m pc la (st.map (ztv (zad b0 o)))) := by
  obtain ⟨hx, hb, -⟩ := M
  have hX : (decide (0 ≤ (pc : Int) + dd) && os.toList.all (fun o => decide (0 ≤ (pc : Int) + o))) = true := hX
  simp only [Bool.and_eq_true] at hX
  obtain ⟨h1, h2⟩ := hX
  obtain ⟨x, r, rfl, hh⟩ := z_tsw_inv hs
  rcases hh with ⟨hc, rfl⟩ | ⟨hc, q9, hq, rfl⟩
  · exact lv_tableOut hx hb hd hc (ztoNat (of_decide_eq_true h1)) (k H locs la cells slots S)
  · have h3 : 0 ≤ (pc : Int) + q9 := of_decide_eq_true (List.all_eq_true.mp h2 q9 (by
      rw [← Array.getElem?_toList] at hq
      exact List.mem_of_getElem? hq))
    exact lv_tableIn hx hb hd (fun w => hc (Or.inl w)) (fun w => hc (Or.inr w)) hq (ztoNat h3) (k H locs la cells slots S)
set_option maxHeartbeats 8000000 in
theorem zs_if (M : zMx D b0 o sa y d p l R s m args meth c) {w : Jvm.ClassFile.Cond} {off : Int} {a : Nat} (hd : decode (zcode y) pc = .ok (.ifCond w off, 3)) (hX : (pc : Int) + off = (a : Int)) (S : zSt D b0 o y h0 s h ls H locs la cells slots) {c' : zC}
    (hs : z_if w a (pc + 3) ls st h = some c') (k : zK D b0 o y h0 p l e R s m args below meth c Q c') : W p l e R s m args below meth c H locs cells slots Q (F0 m pc la (st.map (ztv (zad b0 o)))) := by
  obtain ⟨hx, hb, -⟩ := M
  obtain ⟨x, r, rfl, hs⟩ := z_if_inv hs
  have k1 := k H locs la cells slots
  cases w with
  | eq =>
    have hs : (if x = 0 then some (a, ls, r, h) else some (pc + 3, ls, r, h)) = some c' := hs
    refine lv_if_eq hx hb hd hX (fun q => ?_) (fun q => ?_)
    · rw [if_pos q] at hs; cases hs; exact k1 S
    · rw [if_neg q] at hs; cases hs; exact k1 S
  | ne =>
    have hs : (if ¬ x = 0 then some (a, ls, r, h) else some (pc + 3, ls, r, h)) = some c' := hs
    refine lv_if_ne hx hb hd hX (fun q => ?_) (fun q => ?_)
    · rw [if_pos q] at hs; cases hs; exact k1 S
    · rw [if_neg (fun w => w q)] at hs; cases hs; exact k1 S
  | lt =>
    have hs : (if x < 0 then some (a, ls, r, h) else some (pc + 3, ls, r, h)) = some c' := hs
    refine lv_if_lt hx hb hd hX (fun q => ?_) (fun q => ?_)
    · rw [if_pos q] at hs; cases hs; exact k1 S
    · rw [if_neg q] at hs; cases hs; exact k1 S
  | ge =>
    have hs : (if 0 ≤ x then some (a, ls, r, h) else some (pc + 3, ls, r, h)) = some c' := hs
    refine lv_if_ge hx hb hd hX (fun q => ?_) (fun q => ?_)
    · rw [if_pos q] at hs; cases hs; exact k1 S
    · rw [if_neg q] at hs; cases hs; exact k1 S
  | gt =>
    have hs : (if 0 < x then some (a, ls, r, h) else some (pc + 3, ls, r, h)) = some c' := hs
    refine lv_if_gt hx hb hd hX (fun q => ?_) (fun q => ?_)
    · rw [if_pos q] at hs; cases hs; exact k1 S
    · rw [if_neg q] at hs; cases hs; exact k1 S
  | le =>
    have hs : (if x ≤ 0 then some (a, ls, r, h) else some (pc + 3, ls, r, h)) = some c' := hs
    refine lv_if_le hx hb hd hX (fun q => ?_) (fun q => ?_)
    · rw [if_pos q] at hs; cases hs; exact k1 S
    · rw [if_neg q] at hs; cases hs; exact k1 S
set_option maxHeartbeats 8000000 in
theorem zs_ic (M : zMx D b0 o sa y d p l R s m args meth c) {w : Jvm.ClassFile.Cond} {off : Int} {a : Nat} (hd : decode (zcode y) pc = .ok (.if_icmp w off, 3)) (hX : (pc : Int) + off = (a : Int)) (S : zSt D b0 o y h0 s h ls H locs la cells slots) {c' : zC}
    (hs : z_ic w a (pc + 3) ls st h = some c') (k : zK D b0 o y h0 p l e R s m args below meth c Q c') : W p l e R s m args below meth c H locs cells slots Q (F0 m pc la (st.map (ztv (zad b0 o)))) := by
  obtain ⟨hx, hb, -⟩ := M
  obtain ⟨x, z, r, rfl, hs⟩ := z_ic_inv hs
  have k1 := k H locs la cells slots
  cases w with
  | eq =>
    have hs : (if x = z then some (a, ls, r, h) else some (pc + 3, ls, r, h)) = some c' := hs
    refine lv_icmp_eq hx hb hd hX (fun q => ?_) (fun q => ?_)
    · rw [if_pos q] at hs; cases hs; exact k1 S
    · rw [if_neg q] at hs; cases hs; exact k1 S
  | ne =>
    have hs : (if ¬ x = z then some (a, ls, r, h) else some (pc + 3, ls, r, h)) = some c' := hs
    refine lv_icmp_ne hx hb hd hX (fun q => ?_) (fun q => ?_)
    · rw [if_pos q] at hs; cases hs; exact k1 S
    · rw [if_neg (fun w => w q)] at hs; cases hs; exact k1 S
  | lt =>
    have hs : (if x < z then some (a, ls, r, h) else some (pc + 3, ls, r, h)) = some c' := hs
    refine lv_icmp_lt hx hb hd hX (fun q => ?_) (fun q => ?_)
    · rw [if_pos q] at hs; cases hs; exact k1 S
    · rw [if_neg q] at hs; cases hs; exact k1 S
  | ge =>
    have hs : (if z ≤ x then some (a, ls, r, h) else some (pc + 3, ls, r, h)) = some c' := hs
    refine lv_icmp_ge hx hb hd hX (fun q => ?_) (fun q => ?_)
    · rw [if_pos q] at hs; cases hs; exact k1 S
    · rw [if_neg q] at hs; cases hs; exact k1 S
  | gt =>
    have hs : (if z < x then some (a, ls, r, h) else some (pc + 3, ls, r, h)) = some c' := hs
    refine lv_icmp_gt hx hb hd hX (fun q => ?_) (fun q => ?_)
    · rw [if_pos q] at hs; cases hs; exact k1 S
    · rw [if_neg q] at hs; cases hs; exact k1 S
  | le =>
    have hs : (if x ≤ z then some (a, ls, r, h) else some (pc + 3, ls, r, h)) = some c' := hs
    refine lv_icmp_le hx hb hd hX (fun q => ?_) (fun q => ?_)
    · rw [if_pos q] at hs; cases hs; exact k1 S
    · rw [if_neg q] at hs; cases hs; exact k1 S
set_option maxHeartbeats 16000000 in
set_option maxRecDepth 100000 in
theorem zstepA_ok (M : zMx D b0 o sa y d p l R s m args meth c) (i : zI) (hd : decode (zcode y) pc = .ok (i.1, zlen i.1)) (hX : zokX y pc i = true) (S : zSt D b0 o y h0 s h ls H locs la cells slots) {c' : zC}
    (hs : zstepA i pc ls st h = some c') (hc1 : c'.2.2.2.1 - h0.1 ≤ R.cells) (hc2 : c'.2.2.2.2.1 - h0.2.1 ≤ R.slots) (k : zK D b0 o y h0 p l e R s m args below meth c Q c') : W p l e R s m args below meth c H locs cells slots Q (F0 m pc la (st.map (ztv (zad b0 o)))) := by
  obtain ⟨hx, hb, hml, hown, hts, -⟩ := id M
  have hL := S.2.2.1
  have hLh := hL.has
  obtain ⟨i, len, a, b, kk9, q⟩ := i
  cases i with
  | iconst n => have e9 := z_psh_inv hs; subst e9; exact lv_iconst hx hb hd rfl (k H locs la cells slots S)
  | bipush n => have e9 := z_psh_inv hs; subst e9; exact lv_bipush hx hb hd rfl (k H locs la cells slots S)
  | sipush n => have e9 := z_psh_inv hs; subst e9; exact lv_sipush hx hb hd rfl (k H locs la cells slots S)
  | lconst n => have e9 := z_psh_inv hs; subst e9; exact lv_lconst hx hb hd rfl (k H locs la cells slots S)
  | aconst_null => have e9 := z_psh_inv hs; subst e9; exact lv_null hx hb hd (k H locs la cells slots S)
  | ldc n => have e9 := z_psh_inv hs; subst e9; exact lv_ldc hx hb hown (hts _ (zhas_in (show zhas q (.constant (znm y).cls n (Int32.ofNat a)) = true from hX))) hd (k H locs la cells slots S)
  | ldc_w n => have e9 := z_psh_inv hs; subst e9; exact lv_ldcw hx hb hown (hts _ (zhas_in (show zhas q (.constant (znm y).cls n (Int32.ofNat a)) = true from hX))) hd (k H locs la cells slots S)
  | iload_n n => obtain ⟨x, h1, rfl⟩ := z_ild_inv hs; exact lv_iload_n hx hb hd rfl (hL.ld h1 (by intro q; cases q)) (k H locs la cells slots S)
  | iload n => obtain ⟨x, h1, rfl⟩ := z_ild_inv hs; exact lv_iload hx hb hd (hL.ld h1 (by intro q; cases q)) (k H locs la cells slots S)
  | lload_n n => obtain ⟨x, h1, rfl⟩ := z_lld_inv hs; exact lv_lload_n hx hb hd rfl (hL.ld h1 (by intro q; cases q)) (k H locs la cells slots S)
  | lload n => obtain ⟨x, h1, rfl⟩ := z_lld_inv hs; exact lv_lload hx hb hd (hL.ld h1 (by intro q; cases q)) (k H locs la cells slots S)
  | aload_n n =>
    rcases z_ald_inv hs with ⟨x, h1, rfl⟩ | ⟨h1, rfl⟩
    · exact lv_aload_n hx hb hd rfl (hL.ld h1 (by intro q; cases q)) (k H locs la cells slots S)
    · exact lv_aload_nN hx hb hd rfl (hL.ld h1 (by intro q; cases q)) (k H locs la cells slots S)
  | aload n =>
    rcases z_ald_inv hs with ⟨x, h1, rfl⟩ | ⟨h1, rfl⟩
    · exact lv_aload hx hb hd (hL.ld h1 (by intro q; cases q)) (k H locs la cells slots S)
    · exact lv_aloadN hx hb hd (hL.ld h1 (by intro q; cases q)) (k H locs la cells slots S)
  | istore_n n => obtain ⟨x, r, l', rfl, h1, rfl⟩ := z_ist_inv hs; exact lv_istore_n hx hb hd rfl hLh (by rw [← hL.1]; exact (zst1_spec h1).1) rfl (fun la' hl => k H locs la' cells slots (S.loc (hL.of1 h1 (fun _ => rfl) hl)))
  | istore n => obtain ⟨x, r, l', rfl, h1, rfl⟩ := z_ist_inv hs; exact lv_istore hx hb hd hLh (by rw [← hL.1]; exact (zst1_spec h1).1) rfl (fun la' hl => k H locs la' cells slots (S.loc (hL.of1 h1 (fun _ => rfl) hl)))
  | lstore_n n => obtain ⟨x, r, l', rfl, h1, rfl⟩ := z_lst_inv hs; exact lv_lstore_n hx hb hd rfl hLh (by rw [← hL.1]; exact (zst2_spec h1).1) rfl (fun la' hl => k H locs la' cells slots (S.loc (hL.of2 h1 hl)))
  | lstore n => obtain ⟨x, r, l', rfl, h1, rfl⟩ := z_lst_inv hs; exact lv_lstore hx hb hd hLh (by rw [← hL.1]; exact (zst2_spec h1).1) rfl (fun la' hl => k H locs la' cells slots (S.loc (hL.of2 h1 hl)))
  | astore_n n =>
    rcases z_ast_inv hs with ⟨x, r, l', rfl, h1, rfl⟩ | ⟨r, l', rfl, h1, rfl⟩
    · exact lv_astore_n hx hb hd rfl hLh (by rw [← hL.1]; exact (zst1_spec h1).1) rfl (fun la' hl => k H locs la' cells slots (S.loc (hL.of1 h1 (fun _ => rfl) hl)))
    · exact lv_astore_nN hx hb hd rfl hLh (by rw [← hL.1]; exact (zst1_spec h1).1) rfl (fun la' hl => k H locs la' cells slots (S.loc (hL.of1 h1 (fun _ => rfl) hl)))
  | astore n =>
    rcases z_ast_inv hs with ⟨x, r, l', rfl, h1, rfl⟩ | ⟨r, l', rfl, h1, rfl⟩
    · exact lv_astore hx hb hd hLh (by rw [← hL.1]; exact (zst1_spec h1).1) rfl (fun la' hl => k H locs la' cells slots (S.loc (hL.of1 h1 (fun _ => rfl) hl)))
    · exact lv_astoreN hx hb hd hLh (by rw [← hL.1]; exact (zst1_spec h1).1) rfl (fun la' hl => k H locs la' cells slots (S.loc (hL.of1 h1 (fun _ => rfl) hl)))
  | iinc n z =>
    obtain ⟨x, l', h0', h1, rfl⟩ := z_inc_inv hs
    obtain ⟨k9, hk9⟩ := zLR.at (ad := zad b0 o) h0' (by intro q; cases q)
    exact lv_iinc hx hb hd hLh hk9 rfl (by rw [← hL.1]; exact (zst1_spec h1).1) rfl (fun la' hl => k H locs la' cells slots (S.loc (hL.of1 h1 (fun _ => rfl) hl)))
  | iadd => obtain ⟨x, z, r, rfl, rfl⟩ := z_i2_inv hs; exact lv_iadd hx hb hd (k H locs la cells slots S)
  | isub => obtain ⟨x, z, r, rfl, rfl⟩ := z_i2_inv hs; exact lv_isub hx hb hd (k H locs la cells slots S)
  | imul => obtain ⟨x, z, r, rfl, rfl⟩ := z_i2_inv hs; exact lv_imul hx hb hd (k H locs la cells slots S)
  | iand => obtain ⟨x, z, r, rfl, rfl⟩ := z_i2_inv hs; exact lv_iand hx hb hd (k H locs la cells slots S)
  | ior => obtain ⟨x, z, r, rfl, rfl⟩ := z_i2_inv hs; exact lv_ior hx hb hd (k H locs la cells slots S)
  | ixor => obtain ⟨x, z, r, rfl, rfl⟩ := z_i2_inv hs; exact lv_ixor hx hb hd (k H locs la cells slots S)
  | ishl => obtain ⟨x, z, r, rfl, rfl⟩ := z_i2_inv hs; exact lv_ishl hx hb hd (k H locs la cells slots S)
  | ishr => obtain ⟨x, z, r, rfl, rfl⟩ := z_i2_inv hs; exact lv_ishr hx hb hd (k H locs la cells slots S)
  | idiv => obtain ⟨x, z, r, rfl, hne, rfl⟩ := z_dv_inv hs; exact lv_idiv hx hb hd hne (k H locs la cells slots S)
  | irem => obtain ⟨x, z, r, rfl, hne, rfl⟩ := z_dv_inv hs; exact lv_irem hx hb hd hne (k H locs la cells slots S)
  | ineg => obtain ⟨x, r, rfl, rfl⟩ := z_i1_inv hs; exact lv_ineg hx hb hd (k H locs la cells slots S)
  | ladd => obtain ⟨x, z, r, rfl, rfl⟩ := z_l2_inv hs; exact lv_ladd hx hb hd (k H locs la cells slots S)
  | lsub => obtain ⟨x, z, r, rfl, rfl⟩ := z_l2_inv hs; exact lv_lsub hx hb hd (k H locs la cells slots S)
  | lcmp => obtain ⟨x, z, r, rfl, rfl⟩ := z_lcmp_inv hs; exact W.lcmp hx hb hd (k H locs la cells slots S)
  | i2l => obtain ⟨x, r, rfl, rfl⟩ := z_i2l_inv hs; exact lv_i2l hx hb hd rfl (k H locs la cells slots S)
  | dup => obtain ⟨v, r, rfl, h1, rfl⟩ := z_dup_inv hs; exact lv_dup hx hb hd (zcat1 _ h1) (k H locs la cells slots S)
  | dup_x1 => obtain ⟨v, w, r, rfl, h1, h2, rfl⟩ := z_dupx1_inv hs; exact lv_dup_x1 hx hb hd (zcat1 _ h1) (zcat1 _ h2) (k H locs la cells slots S)
  | dup2 => obtain ⟨v, w, r, rfl, h1, h2, rfl⟩ := z_dup2_inv hs; exact lv_dup2_11 hx hb hd (zcat1 _ h1) (zcat1 _ h2) (k H locs la cells slots S)
  | pop => obtain ⟨v, r, rfl, h1, rfl⟩ := z_pop_inv hs; exact lv_pop hx hb hd (zcat1 _ h1) (k H locs la cells slots S)
  | goto z =>
    have e9 : (a, ls, st, h) = c' := Option.some.inj hs
    subst e9
    exact lv_goto hx hb hd (of_decide_eq_true hX) (k H locs la cells slots S)
  | ifCond w z => exact zs_if M hd (of_decide_eq_true hX) S hs k
  | if_icmp w z => exact zs_ic M hd (of_decide_eq_true hX) S hs k
  | ifnull z =>
    rcases z_nul_inv hs with ⟨r, rfl, rfl⟩ | ⟨x, r, rfl, rfl⟩
    · exact lv_ifnullN hx hb hd (of_decide_eq_true hX) (k H locs la cells slots S)
    · exact lv_ifnull hx hb hd (k H locs la cells slots S)
  | ifnonnull z =>
    rcases z_nul_inv hs with ⟨r, rfl, rfl⟩ | ⟨x, r, rfl, rfl⟩
    · exact lv_ifnonnullN hx hb hd (k H locs la cells slots S)
    · exact lv_ifnonnull hx hb hd (of_decide_eq_true hX) (k H locs la cells slots S)
  | getfield z => exact zs_getf M hd hX S hs k
  | putfield z => exact zs_putf M hd hX S hs k
  | getstatic z => exact zs_gets M hd hX S hs k
  | iaload => exact zs_iald M hd S hs k
  | baload => exact zs_zald M hd S hs k
  | laload => exact zs_lald M hd S hs k
  | aaload => exact zs_aald M hd S hs k
  | iastore => exact zs_iast M hd S hs k
  | bastore => exact zs_zast M hd S hs k
  | lastore => exact zs_last M hd S hs k
  | aastore => exact zs_aast M hd S hs k
  | arraylength =>
    obtain ⟨p0, r, t, n, f, rfl, hg, rfl⟩ := z_alen_inv hs
    have kk := k H locs la cells slots S
    have hat := (S.1.2.2 p0 _ hg).2.2
    rw [zAt_inl] at hat
    by_cases h9 : t = 9
    · rw [if_pos h9] at hat
      obtain ⟨f', hf', cell, a1, a2, a3, a4, a5, a6, a7⟩ := hat
      exact W.alen (n := Int32.ofNat n) hx hb a1 a2 a5 rfl rfl hd kk
    · rw [if_neg h9] at hat
      obtain ⟨cA, h1, h2, -⟩ := hat
      have hsz : ∀ A : vp_A, (vp_cell cA A).slots.size = A.1 ∧ s.isArrayOf (vp_cell cA A) (zaT t) := by
        intro A
        obtain ⟨n', g | g | g | g | g⟩ := A
        · exact ⟨by rw [vp_cell_i, arrV_size], h2 n' _⟩
        · exact ⟨by rw [vp_cell_l, arrV_size], h2 n' _⟩
        · exact ⟨by rw [vp_cell_f, arrV_size], h2 n' _⟩
        · exact ⟨by rw [vp_cell_d, arrV_size], h2 n' _⟩
        · exact ⟨by rw [vp_cell_q, arrV_size], h2 n' _⟩
      exact W.alen (n := Int32.ofNat n) hx hb h1 (hsz _).2 (by rw [(hsz _).1, ztA_1] <;> rfl) rfl rfl hd kk
  | new z =>
    obtain ⟨w1, w2⟩ := zcond hs
    have w1 : kk9 = 0 := Nat.eq_of_beq_eq_true w1
    subst w1
    exact zs_newc M hd hX S w2 hc1 hc2 k
  | newarray z => exact zs_newa M hd hX S hs hc1 hc2 k
  | anewarray z => exact zs_newq M hd hX S hs hc1 hc2 k
  | invokestatic z =>
    by_cases w1 : kk9 = 3
    · subst w1
      exact zs_cpy M hd hX S hs k
    · have hs : (bif Nat.beq kk9 3 then z_cpy (pc + 3) ls st h else bif Nat.beq kk9 4 then z_min (pc + 3) ls st h else none) = some c' := hs
      have w2 : Nat.beq kk9 3 = false := by
        cases hq : Nat.beq kk9 3
        · rfl
        · exact absurd (Nat.eq_of_beq_eq_true hq) w1
      rw [w2] at hs
      obtain ⟨w3, w4⟩ := zcond hs
      have w3 : kk9 = 4 := Nat.eq_of_beq_eq_true w3
      subst w3
      exact zs_min M hd hX S w4 hc1 hc2 k
  | invokespecial z =>
    obtain ⟨w1, w2⟩ := zcond hs
    have w1 : kk9 = 2 := Nat.eq_of_beq_eq_true w1
    subst w1
    exact zs_oinit M hd hX S w2 k
  | _ => cases hs
theorem zstep1_inv {i : zI} {c' : zC} (hs : zstep1 i pc ls st h = some c') : (∃ d lo hi os, i.1 = .tableswitch d lo hi os ∧ z_tsw d lo hi os pc ls st h = some c') ∨ (i.2.1 = zlen i.1 ∧ zstepA i pc ls st h = some c') := by
  obtain ⟨i, len, a, b, kk9, q⟩ := i
  cases i with
  | tableswitch d lo hi os => exact Or.inl ⟨d, lo, hi, os, rfl, hs⟩
  | _ =>
    obtain ⟨h1, h2⟩ := zcond hs
    exact Or.inr ⟨Nat.eq_of_beq_eq_true h1, h2⟩
theorem zstep_ok (M : zMx D b0 o sa y d p l R s m args meth c) (hok : zokI y pc = true) (S : zSt D b0 o y h0 s h ls H locs la cells slots) {c' : zC}
    (hs : zstep y pc ls st h = some c') (hc1 : c'.2.2.2.1 - h0.1 ≤ R.cells) (hc2 : c'.2.2.2.2.1 - h0.2.1 ≤ R.slots) (k : zK D b0 o y h0 p l e R s m args below meth c Q c') : W p l e R s m args below meth c H locs cells slots Q (F0 m pc la (st.map (ztv (zad b0 o)))) := by
  unfold zstep at hs
  cases he : ztab y pc with
  | none => rw [he] at hs; cases hs
  | some i =>
    rw [he] at hs
    obtain ⟨hd, hX⟩ := zokI_spec hok he
    rcases zstep1_inv hs with ⟨dd, lo, hi, os, h1, h2⟩ | ⟨h1, h2⟩
    · obtain ⟨i, len, a, b, kk9, q⟩ := i
      subst h1
      exact zs_tsw M hd hX S h2 k
    · rw [h1] at hd
      exact zstepA_ok M i hd hX S h2 hc1 hc2 k
end ZST3
