/-! calls of the small machine -/
theorem zcw_nil {y : Nat} (h : zhh y = []) : zcw y = .code (znm y) (zcode y) (zml y) (zrt y) := by unfold zcw; rw [h]
theorem zcw_cons {y : Nat} (h : zhh y ≠ []) : zcw y = .codeWith (znm y) (zcode y) (zml y) (zrt y) (zhh y) := by
  unfold zcw
  cases hq : zhh y with
  | nil => exact absurd hq h
  | cons a b => rfl
theorem zgood {y : Nat} (h : zcw y ∈ zgw) : GoodIn zgw (zcw y :: zgw) := by
  have hg : ∀ w ∈ zgw, w ∈ zgw ∧ ((w.onTables && w.keeps) = true ∨ ∃ ty, w = .arrayClass ty) := fun w hw => ⟨hw, good_of_word (List.mem_filter.mp hw).2⟩
  intro w hw
  rcases List.mem_cons.mp hw with rfl | hw
  · exact hg _ h
  · exact hg _ hw
theorem ztk (st : List Value) (b : Nat) (h : Nat.beq (st.take b).length b = true) : (st.take b).length = b := Nat.eq_of_beq_eq_true h
theorem zcall_inv {y pc : Nat} {st : List Value} {h : zS} {a : Nat} {as rest : List Value} (hc : zcall y pc st h = some (a, as, rest)) :
    (∃ i b q p0 fs A, ztab y pc = some (.invokevirtual i, 3, a, b, 0, q) ∧ st = A ++ .ref p0 :: rest ∧ A.length = b ∧ as = .ref p0 :: A.reverse ∧ h.2.2 p0 = some (.inr (zci a, fs)) ∧ rest.length ≤ 4) ∨
    (∃ i b k q A, ztab y pc = some (.invokestatic i, 3, a, b, k, q) ∧ (k = 0 ∨ k = 1) ∧ st = A ++ rest ∧ A.length = b ∧ as = A.reverse ∧ rest.length ≤ 4) ∨
    (∃ i b k q p0 A, ztab y pc = some (.invokespecial i, 3, a, b, k, q) ∧ (k = 0 ∨ k = 1) ∧ st = A ++ .ref p0 :: rest ∧ A.length = b ∧ as = .ref p0 :: A.reverse ∧ rest.length ≤ 4) := by
  unfold zcall at hc
  split at hc
  · rename_i i a' b q ht
    split at hc
    · rename_i p0 r hd
      split at hc
      · rename_i ci fs hg
        obtain ⟨h1, h2⟩ := zcond hc
        simp only [Bool.and_eq_true] at h1
        obtain ⟨⟨h3, h4⟩, h5⟩ := h1
        cases h2
        have h3 := Nat.eq_of_beq_eq_true h3
        subst h3
        exact Or.inl ⟨i, b, q, p0, fs, st.take b, ht, by rw [← hd, List.take_append_drop], ztk st b h5, rfl, hg, Nat.le_of_ble_eq_true h4⟩
      · cases hc
    · cases hc
  · rename_i i a' b q ht
    obtain ⟨h1, h2⟩ := zcond hc
    simp only [Bool.and_eq_true] at h1
    cases h2
    exact Or.inr (Or.inl ⟨i, b, 0, q, st.take b, ht, Or.inl rfl, (List.take_append_drop b st).symm, ztk st b h1.2, rfl, Nat.le_of_ble_eq_true h1.1⟩)
  · rename_i i a' b q ht
    obtain ⟨h1, h2⟩ := zcond hc
    simp only [Bool.and_eq_true] at h1
    cases h2
    exact Or.inr (Or.inl ⟨i, b, 1, q, st.take b, ht, Or.inr rfl, (List.take_append_drop b st).symm, ztk st b h1.2, rfl, Nat.le_of_ble_eq_true h1.1⟩)
  · rename_i i a' b q ht
    split at hc
    · rename_i p0 r hd
      obtain ⟨h1, h2⟩ := zcond hc
      simp only [Bool.and_eq_true] at h1
      cases h2
      exact Or.inr (Or.inr ⟨i, b, 0, q, p0, st.take b, ht, Or.inl rfl, by rw [← hd, List.take_append_drop], ztk st b h1.2, rfl, Nat.le_of_ble_eq_true h1.1⟩)
    · cases hc
  · rename_i i a' b q ht
    split at hc
    · rename_i p0 r hd
      obtain ⟨h1, h2⟩ := zcond hc
      simp only [Bool.and_eq_true] at h1
      cases h2
      exact Or.inr (Or.inr ⟨i, b, 1, q, p0, st.take b, ht, Or.inr rfl, by rw [← hd, List.take_append_drop], ztk st b h1.2, rfl, Nat.le_of_ble_eq_true h1.1⟩)
    · cases hc
  · cases hc
section ZCA
variable {D : va_G} {b0 : Nat} {o sa : Nat → Nat} {y d : Nat} {h0 : zS} {p : Program} {l : Launch} {e : Env} {R : Room} {s : State} {m : MethodId} {args : Array Value} {below : List Frame} {meth : Method} {c : Code} {H : Heap} {locs : List Loc} {la : Array Slot} {cells slots : Nat} {Q : State → Prop}
variable {pc : Nat} {ls st : List Value} {h : zS}
theorem zpre (M : zMx D b0 o sa y d p l R s m args meth c) (S : zSt D b0 o y h0 s h ls H locs la cells slots) (as : List Value) : ∀ U : State, U.heap = H → s.WarmedH U.vm → zPc D b0 o sa l as h ((as.map (ztv (zad b0 o))).toArray) U := by
  obtain ⟨hx, hb, hml, hown, hts, hr, hlk, hnm, htb, OK, hRf, hRl⟩ := M
  intro U hU hW
  refine ⟨rfl, by rw [hU]; exact S.1.moved hW.alike, OK.moved hW (by rw [hU]; exact Nat.le_trans OK.2.1 S.2.1.1) (fun q h1 h2 => by rw [hU]; exact S.2.1.2.1 q h1 h2)⟩
theorem zgo {v : Option Value} {h1 : zS} {mc ms : Nat} {st0 rest : List Value} {a : Array Value} (S : zSt D b0 o y h0 s h ls H locs la cells slots) (hm1 : h.1 ≤ h1.1) (hm2 : h.2.1 ≤ h1.2.1) (e1 : mc = h1.1 - h.1) (e2 : ms = h1.2.1 - h.2.1)
    (hr : va_Run p l e R s m args below meth c H locs cells slots mc ms (F0 m pc la st0) (rest.map (ztv (zad b0 o))) (zQr D b0 o v h1 a) (fun q => b0 ≤ q))
    (k : zK D b0 o y h0 p l e R s m args below meth c Q (pc + 3, ls, v.toList ++ rest, h1)) : W p l e R s m args below meth c H locs cells slots Q (F0 m pc la st0) := by
  intro T hT X
  obtain ⟨v', st₀, t, T', L, f0, X', hL, f1, f2, ⟨hv, hrel, hF⟩, go⟩ := hr T hT X
  cases hv
  obtain ⟨hR, hS, hLr, g1, g2, g3, g4⟩ := S
  have hz : H.size ≤ T'.heap.size := by rw [f1, ← f0]; exact hF.1
  have hal : t.vm.Alike s.vm := by rw [← f2]; exact X'.warmed.alike.symm
  have S' : zSt D b0 o y h0 s h1 ls T'.heap (locs ++ L) la (cells + mc) (slots + ms) := by
    refine ⟨by rw [f1]; exact hrel.moved hal, ⟨Nat.le_trans hS.1 hz, fun q u1 u2 => ?_, fun q hq => ?_⟩, hLr, by omega, by omega, by omega, by omega⟩
    · have h9 := hF.2 q (by rw [f0]; exact Nat.lt_of_lt_of_le u1 hS.1) u2
      rw [f1, h9, f0]
      exact hS.2.1 q u1 u2
    · rcases List.mem_append.mp hq with h | h
      · exact hS.2.2 q h
      · exact hL q h
  obtain ⟨t2, a1, b1⟩ := k T'.heap (locs ++ L) la (cells + mc) (slots + ms) S' T' rfl X'
  refine ⟨t2, go t2 ?_, b1⟩
  have e9 : (v.toList ++ rest).map (ztv (zad b0 o)) = (v.map (ztv (zad b0 o))).toList ++ rest.map (ztv (zad b0 o)) := by cases v <;> rfl
  have a1 : Steps p.tables e below (T'.setTop (F0 m (pc + 3) la ((v.toList ++ rest).map (ztv (zad b0 o))))) t2 := a1
  rw [e9] at a1
  exact a1
set_option maxHeartbeats 8000000 in
theorem zcall_ret (M : zMx D b0 o sa y (d + 1) p l R s m args meth c) (hok : zokI y pc = true) (S : zSt D b0 o y h0 s h ls H locs la cells slots) {a : Nat} {as rest : List Value} (hc : zcall y pc st h = some (a, as, rest)) {v : Option Value} {h1 : zS} {mc ms : Nat}
    (hm1 : h.1 ≤ h1.1) (hm2 : h.2.1 ≤ h1.2.1) (e1 : mc = h1.1 - h.1) (e2 : ms = h1.2.1 - h.2.1) (hc1 : h1.1 - h0.1 ≤ R.cells) (hc2 : h1.2.1 - h0.2.1 ≤ R.slots)
    (hM : Met l (znm a) (zcw a :: zgw) (zrm d mc ms) (zPc D b0 o sa l as h) (zQr D b0 o v h1) mc ms (fun q => b0 ≤ q))
    (k : zK D b0 o y h0 p l e R s m args below meth c Q (pc + 3, ls, v.toList ++ rest, h1)) : W p l e R s m args below meth c H locs cells slots Q (F0 m pc la (st.map (ztv (zad b0 o)))) := by
  have hpre := zpre M S as
  obtain ⟨hx, hb, hml, hown, hts, hr, hlk, hnm, htb, OK, hRf, hRl⟩ := M
  have hcap : cells + mc ≤ R.cells ∧ slots + ms ≤ R.slots := by
    obtain ⟨-, -, -, g1, g2, g3, g4⟩ := S
    omega
  have hsz : (la.size) = zml y := S.2.2.1.2.1
  have hpar : ∀ {b : Nat}, zokPar a b = true → ∀ sig, parseMethodDescriptor (znm a).desc = some sig → b = sig.parameters.length := by
    intro b hb9 sig hsig
    have h9 := of_decide_eq_true hb9
    rw [hsig] at h9
    exact (Option.some.inj h9).symm
  rcases zcall_inv hc with ⟨i, b, q, p0, fs, A, ht, rfl, hA, rfl, hg, hrl⟩ | ⟨i, b, kk, q, A, ht, hk, rfl, hA, rfl, hrl⟩ | ⟨i, b, kk, q, p0, A, ht, hk, rfl, hA, rfl, hrl⟩
  · obtain ⟨hd, hX⟩ := zokI_spec hok ht
    have hX : (zhas q (.methodLink (znm y).cls i (znm a)) && Nat.beq 0 0 && Nat.blt a zN && zokPar a b && (zhh a).isEmpty && Nat.beq (zkd a) 0) = true := hX
    simp only [Bool.and_eq_true] at hX
    obtain ⟨⟨⟨⟨⟨w1, -⟩, w2⟩, w3⟩, w4⟩, w5⟩ := hX
    have hkd : zkd a = 0 := Nat.eq_of_beq_eq_true w5
    obtain ⟨n1, n2, -, -, n5, n6, n7, n8, n9, n10⟩ := zall_M (zblt w2) (by rw [hkd]; decide)
    have hh : zhh a = [] := List.isEmpty_iff.mp w4
    have hat : va_at D vwCl (zad b0 o p0, .inr (zci a, fs.map (ztv (zad b0 o)))) H := (S.1.2.2 p0 _ hg).2.2
    obtain ⟨z1, z2⟩ := n10 hkd
    obtain ⟨r', er, cell, q1, q2, q3, -⟩ := hat
    have hcls : s.vm.findClass (znm a).cls = some cell.cls := by rw [q2, ← z2]; exact (OK.2.2.1.1 (zci a) _ (zcl_get z1)).2.1
    have hsum := zsum (zad b0 o) rest 4 hrl
    refine zgo S hm1 hm2 e1 e2 (a := (Value.ref (zad b0 o p0) :: (A.map (ztv (zad b0 o))).reverse).toArray) (va_runV (C := (znm a).cls) (index := i) (bytes := zcode a) (maxL := zml a) (ret := zrt a) (b := zad b0 o p0) (As := (A.map (ztv (zad b0 o))).reverse) (Ts := zgw) (nL := zml y) ⟨hx, hb, hml, hown, hts⟩ hM ⟨⟨rfl, rfl, by rw [hRf]; exact Nat.le_refl _, by rw [hRl]; show 8 + (zml a + 11) + (39 * d + 29) ≤ _; omega, pay_in hts (zgood n1), by rw [zcw_nil hh]; exact List.mem_cons_self, by rw [← zcw_nil hh]; exact hts _ n1, hts _ n5, ⟨n8, n9⟩, hpar w3, hts _ (zhas_in w1)⟩, hts _ (n2 hkd).1, hts _ (n2 hkd).2⟩
      ⟨zPc_blind D b0 o sa l _ h, ⟨cell, q1, by rw [q3]; rfl, hcls⟩, fun U hU hW => ?_⟩ rfl (by rw [List.length_reverse, List.length_map]; exact hA) hsz (by show (A ++ Value.ref p0 :: rest).map _ = _; rw [List.map_append, List.reverse_reverse]; rfl) (by show 2 * 0 + _ ≤ 8; omega) hd hcap) k
    have := hpre U hU hW
    rw [List.map_cons, List.map_reverse] at this
    exact this
  · obtain ⟨hd, hX⟩ := zokI_spec hok ht
    have hsum := zsum (zad b0 o) rest 4 hrl
    rcases hk with rfl | rfl
    · have hX : (zhas q (.methodLink (znm y).cls i (znm a)) && Nat.blt a zN && zokPar a b && Nat.beq (zkd a) 1) = true := hX
      simp only [Bool.and_eq_true] at hX
      obtain ⟨⟨⟨w1, w2⟩, w3⟩, w5⟩ := hX
      have hkd : zkd a = 1 := Nat.eq_of_beq_eq_true w5
      obtain ⟨n1, -, n3, -, n5, n6, n7, n8, n9, -⟩ := zall_M (zblt w2) (by rw [hkd]; decide)
      by_cases hh : zhh a = []
      · refine zgo S hm1 hm2 e1 e2 (a := (A.map (ztv (zad b0 o))).reverse.toArray) (va_runS (index := i) (bytes := zcode a) (maxL := zml a) (ret := zrt a) (As := (A.map (ztv (zad b0 o))).reverse) (Ts := zgw) (nL := zml y) ⟨hx, hb, hml, hown, hts⟩ hM ⟨⟨rfl, rfl, by rw [hRf]; exact Nat.le_refl _, by rw [hRl]; show 8 + (zml a + 11) + (39 * d + 29) ≤ _; omega, pay_in hts (zgood n1), by rw [zcw_nil hh]; exact List.mem_cons_self, by rw [← zcw_nil hh]; exact hts _ n1, hts _ n5, ⟨n8, n9⟩, hpar w3, hts _ (zhas_in w1)⟩, hts _ (n3 hkd)⟩
          ⟨zPc_blind D b0 o sa l _ h, fun U hU hW => ?_⟩ rfl (by rw [List.length_reverse, List.length_map]; exact hA) hsz (by show (A ++ rest).map _ = _; rw [List.map_append, List.reverse_reverse]) (by show 2 * 0 + _ ≤ 8; omega) hd hcap) k
        have := hpre U hU hW
        rw [List.map_reverse] at this
        exact this
      · refine zgo S hm1 hm2 e1 e2 (a := (A.map (ztv (zad b0 o))).reverse.toArray) (vx_runSW (index := i) (bytes := zcode a) (maxL := zml a) (ret := zrt a) (hh := zhh a) (As := (A.map (ztv (zad b0 o))).reverse) (Ts := zgw) (nL := zml y) ⟨hx, hb, hml, hown, hts⟩ hM ⟨⟨rfl, rfl, by rw [hRf]; exact Nat.le_refl _, by rw [hRl]; show 8 + (zml a + 11) + (39 * d + 29) ≤ _; omega, pay_in hts (zgood n1), by rw [zcw_cons hh]; exact List.mem_cons_self⟩, by rw [← zcw_cons hh]; exact hts _ n1, hts _ n5, ⟨n8, n9⟩, hpar w3, hts _ (zhas_in w1), hts _ (n3 hkd)⟩
          ⟨zPc_blind D b0 o sa l _ h, fun U hU hW => ?_⟩ rfl (by rw [List.length_reverse, List.length_map]; exact hA) hsz (by show (A ++ rest).map _ = _; rw [List.map_append, List.reverse_reverse]) (by show 2 * 0 + _ ≤ 8; omega) hd hcap) k
        have := hpre U hU hW
        rw [List.map_reverse] at this
        exact this
    · have hX : (zhasN q (.methodLinkNest (znm y).cls i (znm a) "LoopTracer") && Nat.blt a zN && zokPar a b && (zhh a).isEmpty && Nat.beq (zkd a) 1) = true := hX
      simp only [Bool.and_eq_true] at hX
      obtain ⟨⟨⟨⟨w1, w2⟩, w3⟩, w4⟩, w5⟩ := hX
      have hkd : zkd a = 1 := Nat.eq_of_beq_eq_true w5
      obtain ⟨n1, -, n3, -, n5, n6, n7, n8, n9, -⟩ := zall_M (zblt w2) (by rw [hkd]; decide)
      have hh : zhh a = [] := List.isEmpty_iff.mp w4
      refine zgo S hm1 hm2 e1 e2 (a := (A.map (ztv (zad b0 o))).reverse.toArray) (va_runSN (host := "LoopTracer") (index := i) (bytes := zcode a) (maxL := zml a) (ret := zrt a) (As := (A.map (ztv (zad b0 o))).reverse) (Ts := zgw) (nL := zml y) ⟨hx, hb, hml, hown, hts⟩ hM ⟨⟨⟨rfl, rfl, by rw [hRf]; exact Nat.le_refl _, by rw [hRl]; show 8 + (zml a + 11) + (39 * d + 29) ≤ _; omega, pay_in hts (zgood n1), by rw [zcw_nil hh]; exact List.mem_cons_self⟩, by rw [← zcw_nil hh]; exact hts _ n1, hts _ n5, ⟨n8, n9⟩, hpar w3, va_Nw.use rfl (OK.2.2.2.1 _ (zhasN_in w1 rfl))⟩, hts _ (n3 hkd), trivial⟩
          ⟨zPc_blind D b0 o sa l _ h, fun U hU hW => ?_⟩ rfl (by rw [List.length_reverse, List.length_map]; exact hA) hsz (by show (A ++ rest).map _ = _; rw [List.map_append, List.reverse_reverse]) (by show 2 * 0 + _ ≤ 8; omega) hd hcap) k
      have := hpre U hU hW
      rw [List.map_reverse] at this
      exact this
  · obtain ⟨hd, hX⟩ := zokI_spec hok ht
    have hsum := zsum (zad b0 o) rest 4 hrl
    rcases hk with rfl | rfl
    · have hX : (zhas q (.methodLink (znm y).cls i (znm a)) && Nat.blt a zN && zokPar a b && (zhh a).isEmpty && decide ((znm a).name = "<init>") && decide (zrt a = none) && Nat.beq (zkd a) 2) = true := hX
      simp only [Bool.and_eq_true] at hX
      obtain ⟨⟨⟨⟨⟨⟨w1, w2⟩, w3⟩, w4⟩, w6⟩, w7⟩, w5⟩ := hX
      have hkd : zkd a = 2 := Nat.eq_of_beq_eq_true w5
      obtain ⟨n1, -, -, n4, n5, n6, n7, n8, n9, -⟩ := zall_M (zblt w2) (by rw [hkd]; decide)
      have hh : zhh a = [] := List.isEmpty_iff.mp w4
      have hrt : zrt a = none := of_decide_eq_true w7
      have hcw := zcw_nil hh
      rw [hrt] at hcw
      refine zgo S hm1 hm2 e1 e2 (a := (Value.ref (zad b0 o p0) :: (A.map (ztv (zad b0 o))).reverse).toArray) (va_runI (index := i) (bytes := zcode a) (maxL := zml a) (b := zad b0 o p0) (As := (A.map (ztv (zad b0 o))).reverse) (Ts := zgw) (nL := zml y) ⟨hx, hb, hml, hown, hts⟩ hM ⟨⟨rfl, rfl, by rw [hRf]; exact Nat.le_refl _, by rw [hRl]; show 8 + (zml a + 11) + (39 * d + 29) ≤ _; omega, pay_in hts (zgood n1), by rw [hcw]; exact List.mem_cons_self, by rw [← hcw]; exact hts _ n1, hts _ n5, ⟨n8, n9⟩, hpar w3, hts _ (zhas_in w1)⟩, of_decide_eq_true w6, hts _ (n4 hkd)⟩
        ⟨zPc_blind D b0 o sa l _ h, fun U hU hW => ?_⟩ rfl (by rw [List.length_reverse, List.length_map]; exact hA) hsz (by show (A ++ Value.ref p0 :: rest).map _ = _; rw [List.map_append, List.reverse_reverse]; rfl) (by show 2 * 0 + _ ≤ 8; omega) hd hcap) k
      have := hpre U hU hW
      rw [List.map_cons, List.map_reverse] at this
      exact this
    · have hX : (zhasN q (.methodLinkNest (znm y).cls i (znm a) "LoopTracer") && Nat.blt a zN && zokPar a b && (zhh a).isEmpty && decide ((znm a).name = "<init>") && decide (zrt a = none) && Nat.beq (zkd a) 2) = true := hX
      simp only [Bool.and_eq_true] at hX
      obtain ⟨⟨⟨⟨⟨⟨w1, w2⟩, w3⟩, w4⟩, w6⟩, w7⟩, w5⟩ := hX
      have hkd : zkd a = 2 := Nat.eq_of_beq_eq_true w5
      obtain ⟨n1, -, -, n4, n5, n6, n7, n8, n9, -⟩ := zall_M (zblt w2) (by rw [hkd]; decide)
      have hh : zhh a = [] := List.isEmpty_iff.mp w4
      have hrt : zrt a = none := of_decide_eq_true w7
      have hcw := zcw_nil hh
      rw [hrt] at hcw
      refine zgo S hm1 hm2 e1 e2 (a := (Value.ref (zad b0 o p0) :: (A.map (ztv (zad b0 o))).reverse).toArray) (va_runIN (host := "LoopTracer") (index := i) (bytes := zcode a) (maxL := zml a) (b := zad b0 o p0) (As := (A.map (ztv (zad b0 o))).reverse) (Ts := zgw) (nL := zml y) ⟨hx, hb, hml, hown, hts⟩ hM ⟨⟨⟨rfl, rfl, by rw [hRf]; exact Nat.le_refl _, by rw [hRl]; show 8 + (zml a + 11) + (39 * d + 29) ≤ _; omega, pay_in hts (zgood n1), by rw [hcw]; exact List.mem_cons_self⟩, by rw [← hcw]; exact hts _ n1, hts _ n5, ⟨n8, n9⟩, hpar w3, va_Nw.use rfl (OK.2.2.2.1 _ (zhasN_in w1 rfl))⟩, of_decide_eq_true w6, hts _ (n4 hkd)⟩
        ⟨zPc_blind D b0 o sa l _ h, fun U hU hW => ?_⟩ rfl (by rw [List.length_reverse, List.length_map]; exact hA) hsz (by show (A ++ Value.ref p0 :: rest).map _ = _; rw [List.map_append, List.reverse_reverse]; rfl) (by show 2 * 0 + _ ≤ 8; omega) hd hcap) k
      have := hpre U hU hW
      rw [List.map_cons, List.map_reverse] at this
      exact this
end ZCA
