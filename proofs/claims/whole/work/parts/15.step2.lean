/-! a step of the small machine, further: what makes cells; and all steps -/
theorem zdef_map (ad : Nat → Nat) (a : Nat) : (zdef a).map (ztv ad) = zdef a := by
  unfold zdef
  rw [List.map_map]
  refine List.map_congr_left fun j _ => ?_
  show ztv ad (defaultValue (zty a j)) = defaultValue (zty a j)
  cases zty a j <;> rfl
theorem zdef_V (a j : Nat) (hj : j < (zcl a).2.2) : defaultValue (zty a j) = vp_V (zdef a) j := by
  unfold vp_V zdef
  rw [List.getD_eq_getElem?_getD, List.getElem?_map, List.getElem?_range hj]
  rfl
section ZST2
variable {D : va_G} {b0 : Nat} {o sa : Nat → Nat} {y d : Nat} {h0 : zS} {p : Program} {l : Launch} {e : Env} {R : Room} {s : State} {m : MethodId} {args : Array Value} {below : List Frame} {meth : Method} {c : Code} {H : Heap} {locs : List Loc} {la : Array Slot} {cells slots : Nat} {Q : State → Prop}
variable {pc : Nat} {ls st : List Value} {h : zS}
set_option maxHeartbeats 4000000 in
theorem zs_newc (M : zMx D b0 o sa y d p l R s m args meth c) {i a b len q : Nat} (hd : decode (zcode y) pc = .ok (.new i, 3)) (hX : zokX y pc (.new i, len, a, b, 0, q) = true) (S : zSt D b0 o y h0 s h ls H locs la cells slots) {c' : zC}
    (hs : z_newc a b (pc + 3) ls st h = some c') (hc1 : c'.2.2.2.1 - h0.1 ≤ R.cells) (hc2 : c'.2.2.2.2.1 - h0.2.1 ≤ R.slots) (k : zK D b0 o y h0 p l e R s m args below meth c Q c') : W p l e R s m args below meth c H locs cells slots Q (F0 m pc la (st.map (ztv (zad b0 o)))) := by
  obtain ⟨hx, hb, hml, hown, hts, hr, hlk, hnm, htb, OK, hRf, hRl⟩ := M
  have e9 : (pc + 3, ls, Value.ref h.1 :: st, znew h b (.inr (a, zdef a))) = c' := Option.some.inj hs
  subst e9
  have hX : (zhas q (.classLink (znm y).cls i (zcl a).1) && Nat.beq b (zcl a).2.2 && Nat.blt a 10) = true := hX
  simp only [Bool.and_eq_true] at hX
  obtain ⟨⟨h1, h2⟩, h3⟩ := hX
  have h2 := Nat.eq_of_beq_eq_true h2
  have ha : a < 10 := zblt h3
  subst h2
  obtain ⟨hR, hS, hL, g1, g2, g3, g4⟩ := id S
  have hKn := OK.2.2.1.1 a _ (zcl_get ha)
  have hc1' : h.1 + 1 - h0.1 ≤ R.cells := hc1
  have hc2' : h.2.1 + (zcl a).2.2 - h0.2.1 ≤ R.slots := hc2
  refine W.newcK hx hb hown (hts _ (zhas_in h1)) (hts _ (zinst_in ha).1) (hts _ (zinst_in ha).2) rfl hd (by omega) (by omega) hKn.2.1 rfl fun H1 kC hkC e1 z1 o1 => ?_
  have hz : zad b0 o h.1 = H.size := hR.2.1.symm
  have kk := k H1 locs la (cells + 1) (slots + (zcl a).2.2) (S.fresh (e1 := .inr (a, zdef a)) (n := (zcl a).2.2) z1 o1 (by
    rw [zAt_inr]
    show va_at D vwCl (zad b0 o h.1, .inr (a, (zdef a).map (ztv (zad b0 o)))) H1
    rw [zdef_map, hz]
    exact ⟨_, zcl_get ha, (u_born (zty a) hts (zin_ws ha) hKn hkC e1 (zty_ok ha)).to (fun j hj => zdef_V a j hj)⟩))
  have e8 : (Value.ref h.1 :: st).map (ztv (zad b0 o)) = Value.ref H.size :: st.map (ztv (zad b0 o)) := by rw [List.map_cons]; show Value.ref (zad b0 o h.1) :: _ = _; rw [hz]
  have kk2 : W p l e R s m args below meth c H1 locs (cells + 1) (slots + (zcl a).2.2) Q (F0 m (pc + 3) la (Value.ref H.size :: st.map (ztv (zad b0 o)))) := by rw [← e8]; exact kk
  exact kk2
set_option maxHeartbeats 4000000 in
theorem zs_newa (M : zMx D b0 o sa y d p l R s m args meth c) {t : ArrayType} {a b len kk9 q : Nat} (hd : decode (zcode y) pc = .ok (.newarray t, 2)) (hX : zokX y pc (.newarray t, len, a, b, kk9, q) = true) (S : zSt D b0 o y h0 s h ls H locs la cells slots) {c' : zC}
    (hs : z_newa a (pc + 2) ls st h = some c') (hc1 : c'.2.2.2.1 - h0.1 ≤ R.cells) (hc2 : c'.2.2.2.2.1 - h0.2.1 ≤ R.slots) (k : zK D b0 o y h0 p l e R s m args below meth c Q c') : W p l e R s m args below meth c H locs cells slots Q (F0 m pc la (st.map (ztv (zad b0 o)))) := by
  obtain ⟨hx, hb, hml, hown, hts, hr, hlk, hnm, htb, OK, hRf, hRl⟩ := M
  obtain ⟨n, r, rfl, hn0, hn1, rfl⟩ := z_newa_inv hs
  have hX : (decide (newarray.typeOf t = zaT a) && Nat.blt a 3) = true := hX
  simp only [Bool.and_eq_true] at hX
  have hty : newarray.typeOf t = zaT a := of_decide_eq_true hX.1
  have ha : a < 3 := zblt hX.2
  obtain ⟨hR, hS, hL, g1, g2, g3, g4⟩ := id S
  have hc1' : h.1 + 1 - h0.1 ≤ R.cells := hc1
  have hc2' : h.2.1 + n.toNatClampNeg - h0.2.1 ≤ R.slots := hc2
  have hz : zad b0 o h.1 = H.size := hR.2.1.symm
  have harr : (Cond.arrayClass (newarray.typeOf t)).before args s = true := by
    rw [hty]
    obtain ⟨-, -, -, -, -, w1, w2, w3, -⟩ := zfix_in
    match a, ha with
    | 0, _ => exact hts _ w1
    | 1, _ => exact hts _ w2
    | 2, _ => exact hts _ w3
  have hbytes : n.toNatClampNeg * componentBytes (newarray.typeOf t) ≤ 536870912 := by
    rw [hty]
    match a, ha with
    | 0, _ => show n.toNatClampNeg * 4 ≤ 536870912; omega
    | 1, _ => show n.toNatClampNeg * 8 ≤ 536870912; omega
    | 2, _ => show n.toNatClampNeg * 1 ≤ 536870912; omega
  refine va_newaK hx hb harr rfl hd rfl hn0 rfl hbytes (by omega) (by omega) rfl fun H1 cA e1 z1 o1 hAr hNm => ?_
  have kk := k H1 locs la (cells + 1) (slots + n.toNatClampNeg) (S.fresh (e1 := .inl (a, n.toNatClampNeg, bif Nat.beq a 1 then .inr (.inl fun _ => 0) else .inl fun _ => 0)) (n := n.toNatClampNeg) z1 o1 (by
    refine zAt_arr (cA := cA) (by omega) ?_ (by rw [← hty]; exact hAr) ?_
    · rw [hz, e1, hty]
      match a, ha with
      | 0, _ => rfl
      | 1, _ => rfl
      | 2, _ => rfl
    · rw [hty] at hNm
      match a, ha with
      | 0, _ => exact hNm
      | 1, _ => exact hNm
      | 2, _ => exact hNm))
  have e8 : (Value.ref h.1 :: r).map (ztv (zad b0 o)) = Value.ref H.size :: r.map (ztv (zad b0 o)) := by rw [List.map_cons]; show Value.ref (zad b0 o h.1) :: _ = _; rw [hz]
  have kk2 : W p l e R s m args below meth c H1 locs (cells + 1) (slots + n.toNatClampNeg) Q (F0 m (pc + 2) la (Value.ref H.size :: r.map (ztv (zad b0 o)))) := by rw [← e8]; exact kk
  exact kk2
set_option maxHeartbeats 4000000 in
theorem zs_newq (M : zMx D b0 o sa y d p l R s m args meth c) {i a b len kk9 q : Nat} (hd : decode (zcode y) pc = .ok (.anewarray i, 3)) (hX : zokX y pc (.anewarray i, len, a, b, kk9, q) = true) (S : zSt D b0 o y h0 s h ls H locs la cells slots) {c' : zC}
    (hs : z_newq a (pc + 3) ls st h = some c') (hc1 : c'.2.2.2.1 - h0.1 ≤ R.cells) (hc2 : c'.2.2.2.2.1 - h0.2.1 ≤ R.slots) (k : zK D b0 o y h0 p l e R s m args below meth c Q c') : W p l e R s m args below meth c H locs cells slots Q (F0 m pc la (st.map (ztv (zad b0 o)))) := by
  obtain ⟨hx, hb, hml, hown, hts, hr, hlk, hnm, htb, OK, hRf, hRl⟩ := M
  obtain ⟨n, r, rfl, hn0, hn1, rfl⟩ := z_newq_inv hs
  have hX : (zhas q (.classLink (znm y).cls i (zAn a)) && (Nat.beq a 3 || Nat.beq a 4)) = true := hX
  simp only [Bool.and_eq_true, Bool.or_eq_true] at hX
  obtain ⟨h1, h2⟩ := hX
  have ha : a = 3 ∨ a = 4 := h2.imp Nat.eq_of_beq_eq_true Nat.eq_of_beq_eq_true
  obtain ⟨hR, hS, hL, g1, g2, g3, g4⟩ := id S
  have hc1' : h.1 + 1 - h0.1 ≤ R.cells := hc1
  have hc2' : h.2.1 + n.toNatClampNeg - h0.2.1 ≤ R.slots := hc2
  have hz : zad b0 o h.1 = H.size := hR.2.1.symm
  have hover : va_AO (zAn a) s := by
    rcases ha with rfl | rfl
    · exact OK.2.2.2.2.2.2.2.2.2.2.1
    · exact OK.2.2.2.2.2.2.2.2.2.2.2
  refine W.anew hx hb hown (hts _ (zhas_in h1)) (va_AO.use hover) rfl hd rfl hn0 (by omega) (by omega) (by omega) fun cA kA comp f1 f2 f3 f4 => ?_
  generalize hH1 : H.push ({ cls := cA, slots := Array.replicate n.toNatClampNeg .null, vm := .none } : Cell) = H1
  have z1 : H1.size = H.size + 1 := by rw [← hH1, Array.size_push]
  have e1 : H1[H.size]? = some (arrV cA n.toNatClampNeg (fun _ => .null)) := by rw [← hH1, Array.getElem?_push_size, ← arrV_new]
  have o1 : ∀ q : Nat, q < H.size → H1[q]? = H[q]? := fun q hq => by rw [← hH1, Array.getElem?_push, if_neg (Nat.ne_of_lt hq)]
  have hAr : ArrOfT s cA (.object (zAn a)) := fun N z => ⟨(fun k h => by cases h), kA, f2, comp, f3⟩
  have kk := k H1 locs la (cells + 1) (slots + n.toNatClampNeg) (S.fresh (e1 := .inl (a, n.toNatClampNeg, .inr (.inr (.inr (.inr fun _ => none))))) (n := n.toNatClampNeg) z1 o1 (by
    refine zAt_arr (cA := cA) (by omega) ?_ (by rw [zaT_q ha]; exact hAr) (by rw [zaT_q ha]; exact ⟨kA, comp, f2, f3, f4, f1⟩)
    rw [hz, e1]
    rfl))
  have e8 : (Value.ref h.1 :: r).map (ztv (zad b0 o)) = Value.ref H.size :: r.map (ztv (zad b0 o)) := by rw [List.map_cons]; show Value.ref (zad b0 o h.1) :: _ = _; rw [hz]
  have kk2 : W p l e R s m args below meth c H1 locs (cells + 1) (slots + n.toNatClampNeg) Q (F0 m (pc + 3) la (Value.ref H.size :: r.map (ztv (zad b0 o)))) := by rw [← e8]; exact kk
  exact kk2
set_option maxHeartbeats 4000000 in
theorem zs_cpy (M : zMx D b0 o sa y d p l R s m args meth c) {i a b len q : Nat} (hd : decode (zcode y) pc = .ok (.invokestatic i, 3)) (hX : zokX y pc (.invokestatic i, len, a, b, 3, q) = true) (S : zSt D b0 o y h0 s h ls H locs la cells slots) {c' : zC}
    (hs : z_cpy (pc + 3) ls st h = some c') (k : zK D b0 o y h0 p l e R s m args below meth c Q c') : W p l e R s m args below meth c H locs cells slots Q (F0 m pc la (st.map (ztv (zad b0 o)))) := by
  obtain ⟨hx, hb, hml, hown, hts, hr, hlk, hnm, htb, OK, hRf, hRl⟩ := M
  obtain ⟨n, dp, q0, sp, p0, r, n0, f, n1, g, rfl, hg0, hg1, hne, hq1, hp1, k1, k2, k3, k4, k5, hrl, rfl⟩ := z_cpy_inv hs
  have hX : zhas q (.methodLink (znm y).cls i arraycopyName) = true := hX
  obtain ⟨-, -, w1, w2, w3, -⟩ := zfix_in
  obtain ⟨c0, h1, h2, h3⟩ := zarr S.1 hg0 (by decide)
  obtain ⟨c1, h4, h5, h6⟩ := zarr S.1 hg1 (by decide)
  rw [ztA_i] at h1 h4
  have hsum := zsum (zad b0 o) r 1 hrl
  have hnw : nativeFrameWords "java/lang/System" "arraycopy" 5 = 7 := by decide +kernel
  have nn : ∀ z : Int32, ¬ z < 0 → z.toInt = (z.toNatClampNeg : Int) := by
    intro z hz
    have hz0 : (0 : Int) ≤ z.toInt := by
      have := Int32.not_lt.mp hz
      simpa using Int32.le_iff_toInt_le.mp this
    show z.toInt = ((z.toInt.toNat : Nat) : Int)
    omega
  intro T hT X
  obtain ⟨-, kc0, hk0, cm0, hkk0⟩ := h2 n0 (fun j => .int (f j))
  obtain ⟨-, kc1, hk1, cm1, hkk1⟩ := h5 n1 (fun j => .int (g j))
  obtain ⟨vm', X', step⟩ := X.arraycopy hx hown (hts _ (zhas_in hX)) (hts _ w1) (hts _ w2) (hts _ w3) (src := zad b0 o p0) (dst := zad b0 o q0) (cs := vp_cell c0 (n0, .inl f)) (cd := vp_cell c1 (n1, .inl g)) (srcPos := sp) (destPos := dp) (n := n) (by rw [hT]; exact h1) (by rw [hT]; exact h4)
    (fun _ h => by cases h) (fun _ h => by cases h) (fun h => by cases h) (fun h => by cases h) hk0 hk1 hkk0 hkk1 (by decide) k1 k2 k3
    (by rw [nn sp k1, nn n k3]; show ¬ _ > ((arrV c0 n0 (fun j => .int (f j))).slots.size : Int); rw [arrV_size]; omega)
    (by rw [nn dp k2, nn n k3]; show ¬ _ > ((arrV c1 n1 (fun j => .int (g j))).slots.size : Int); rw [arrV_size]; omega)
    (fun vm₁ _ i hi => by
      have e : (vp_cell c0 (n0, .inl f)).slots.getD (sp.toNatClampNeg + i) .null = .int (f (sp.toNatClampNeg + i)) := by
        show (arrV c0 n0 (fun j => .int (f j))).slots.getD _ _ = _
        rw [Array.getD_eq_getD_getElem?, arrV_read _ _ (by omega)]
        rfl
      refine ⟨?_, ?_⟩
      · rw [e]; rfl
      · rw [e]
        exact trivial)
    (g := F0 m pc la (.int n :: .int dp :: .ref (zad b0 o q0) :: .int sp :: .ref (zad b0 o p0) :: r.map (ztv (zad b0 o)))) rfl (by rw [hml]; exact S.2.2.1.2.1) (rest := r.map (ztv (zad b0 o))) rfl (by rw [hb]; exact hd) (by omega) (by show 2 * 0 + _ + _ ≤ _; omega)
  have e1 : copied (vp_cell c0 (n0, .inl f)) (vp_cell c1 (n1, .inl g)) sp dp n = vp_cell c1 (n1, .inl (va_cpy f g sp.toNatClampNeg dp.toNatClampNeg n.toNatClampNeg)) := va_copied (fun z => .int z) c0 c1 f g k4
  rw [e1] at X' step
  have hl : zad b0 o q0 < H.size := (Array.getElem?_eq_some_iff.mp h4).1
  have hheap : ((T.setVm vm').setCell (zad b0 o q0) (vp_cell c1 (n1, .inl (va_cpy f g sp.toNatClampNeg dp.toNatClampNeg n.toNatClampNeg)))).heap = H.setIfInBounds (zad b0 o q0) (vp_cell c1 (n1, .inl (va_cpy f g sp.toNatClampNeg dp.toNatClampNeg n.toNatClampNeg))) := by rw [← hT]; rfl
  have oq : ∀ q : Nat, q ≠ zad b0 o q0 → (H.setIfInBounds (zad b0 o q0) (vp_cell c1 (n1, .inl (va_cpy f g sp.toNatClampNeg dp.toNatClampNeg n.toNatClampNeg))))[q]? = H[q]? := fun q hq => by simp [Array.getElem?_setIfInBounds, Ne.symm hq]
  have hbq : b0 ≤ zad b0 o q0 := by rw [zad_new b0 o hq1]; omega
  obtain ⟨hR, hS, hL, gg⟩ := S
  obtain ⟨t, a1, b1⟩ := k _ _ la cells slots ⟨hR.put hg1 hq1 (by simp) oq (zAt_arr (cA := c1) (by decide) (by rw [ztA_i]; simp [Array.getElem?_setIfInBounds, hl]) h5 h6), ⟨by simp; exact hS.1, fun q u1 u2 => by
      rw [oq q (fun e => u2 (by rw [e]; exact hbq))]
      exact hS.2.1 q u1 u2, fun q hq => by
      rcases List.mem_append.mp hq with h | h
      · exact hS.2.2 q h
      · obtain ⟨z, -, hz⟩ := List.mem_map.mp h
        rw [← hz]
        exact hbq⟩, hL, gg⟩ _ hheap X'
  exact ⟨t, step t a1, b1⟩
theorem zmin_in : Cond.static Lib.Math.min.name ∈ zgw ∧ Cond.initialized "java/lang/Math" ∈ zgw ∧ Cond.code Lib.Math.min.name Lib.Math.min.code 2 (some .int) ∈ zgw := by decide +kernel
set_option maxHeartbeats 4000000 in
theorem zs_min (M : zMx D b0 o sa y d p l R s m args meth c) {i a b len q : Nat} (hd : decode (zcode y) pc = .ok (.invokestatic i, 3)) (hX : zokX y pc (.invokestatic i, len, a, b, 4, q) = true) (S : zSt D b0 o y h0 s h ls H locs la cells slots) {c' : zC}
    (hs : z_min (pc + 3) ls st h = some c') (hc1 : c'.2.2.2.1 - h0.1 ≤ R.cells) (hc2 : c'.2.2.2.2.1 - h0.2.1 ≤ R.slots) (k : zK D b0 o y h0 p l e R s m args below meth c Q c') : W p l e R s m args below meth c H locs cells slots Q (F0 m pc la (st.map (ztv (zad b0 o)))) := by
  obtain ⟨hx, hb, hml, hown, hts, hr, hlk, hnm, htb, OK, hRf, hRl⟩ := M
  obtain ⟨x, z, r, rfl, hrl, rfl⟩ := z_min_inv hs
  have hX : (Nat.beq 4 4 && zhas q (.methodLink (znm y).cls i Lib.Math.min.name)) = true := hX
  have hX : zhas q (.methodLink (znm y).cls i Lib.Math.min.name) = true := hX
  obtain ⟨w1, w2, w3⟩ := zmin_in
  have hsum := zsum (zad b0 o) r 4 hrl
  obtain ⟨hR, hS, hL, g1, g2, g3, g4⟩ := id S
  have hc1' : h.1 - h0.1 ≤ R.cells := hc1
  have hc2' : h.2.1 - h0.2.1 ≤ R.slots := hc2
  exact va_mmin hx hb (by rw [hml]; exact hL.2.1.symm) hown (hts _ (zhas_in hX)) (hts _ w1) (hts _ w2) (hts _ w3) (by omega) (by omega) (by omega) (by omega) hd (k H locs la cells slots S)
set_option maxHeartbeats 4000000 in
theorem zs_oinit (M : zMx D b0 o sa y d p l R s m args meth c) {i a b len q : Nat} (hd : decode (zcode y) pc = .ok (.invokespecial i, 3)) (hX : zokX y pc (.invokespecial i, len, a, b, 2, q) = true) (S : zSt D b0 o y h0 s h ls H locs la cells slots) {c' : zC}
    (hs : z_oinit (pc + 3) ls st h = some c') (k : zK D b0 o y h0 p l e R s m args below meth c Q c') : W p l e R s m args below meth c H locs cells slots Q (F0 m pc la (st.map (ztv (zad b0 o)))) := by
  obtain ⟨hx, hb, hml, hown, hts, hr, hlk, hnm, htb, OK, hRf, hRl⟩ := M
  obtain ⟨p0, r, rfl, hrl, rfl⟩ := z_oinit_inv hs
  have hX : zhas q (.methodLink (znm y).cls i objectInit) = true := hX
  obtain ⟨w1, w2, -⟩ := zfix_in
  have hsum := zsum (zad b0 o) r 4 hrl
  exact W.objInit hx hb hown (hts _ (zhas_in hX)) (hts _ w1) (hts _ w2) rfl (by rw [hml]; exact S.2.2.1.2.1) rfl hd (by omega) (by show 2 * 0 + _ + 12 ≤ _; omega) (k H locs la cells slots S)
set_option maxHeartbeats 4000000 in
theorem zs_gets (M : zMx D b0 o sa y d p l R s m args meth c) {i a b len kk9 q : Nat} (hd : decode (zcode y) pc = .ok (.getstatic i, 3)) (hX : zokX y pc (.getstatic i, len, a, b, kk9, q) = true) (S : zSt D b0 o y h0 s h ls H locs la cells slots) {c' : zC}
    (hs : z_psh (.ref a) (pc + 3) ls st h = some c') (k : zK D b0 o y h0 p l e R s m args below meth c Q c') : W p l e R s m args below meth c H locs cells slots Q (F0 m pc la (st.map (ztv (zad b0 o)))) := by
  obtain ⟨hx, hb, hml, hown, hts, hr, hlk, hnm, htb, OK, hRf, hRl⟩ := M
  have e9 := z_psh_inv hs
  subst e9
  have hX : (zhasN q (.fieldLinkNest (znm y).cls i "LoopTracer" (zSf a) "[I" "LoopTracer") && (Nat.beq a 1 || Nat.beq a 2)) = true := hX
  simp only [Bool.and_eq_true, Bool.or_eq_true] at hX
  obtain ⟨h1, h2⟩ := hX
  have hN := OK.2.2.2.1 _ (zhasN_in h1 rfl)
  have kk := k H locs la cells slots S
  rcases h2 with h2 | h2
  · have h2 := Nat.eq_of_beq_eq_true h2
    subst h2
    exact va_getsN (v := .ref (o 1)) hx hb OK.2.2.2.2.1 S.2.1 hown (va_Nw.use rfl hN) (fun _ h9 => h9) hd kk
  · have h2 := Nat.eq_of_beq_eq_true h2
    subst h2
    exact va_getsN (v := .ref (o 2)) hx hb OK.2.2.2.2.2.1 S.2.1 hown (va_Nw.use rfl hN) (fun _ h9 => h9) hd kk
end ZST2
