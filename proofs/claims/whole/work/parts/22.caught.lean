/-! a call that throws, and is caught -/
theorem zhh_ok0 : (List.range zN).all (fun y => (zhh y).all (fun q => (Nat.beq q.2.2.2 13 || Nat.beq q.2.2.2 15 || Nat.beq q.2.2.2 27) && decide ((znm y).cls = "LoopTracerLaw"))) = true := by decide +kernel
theorem zhh_ok {y : Nat} (hy : y < zN) {q : Nat × Nat × Nat × Nat} (hq : q ∈ zhh y) : (q.2.2.2 = 13 ∨ q.2.2.2 = 15 ∨ q.2.2.2 = 27) ∧ (znm y).cls = "LoopTracerLaw" := by
  have h1 := List.all_eq_true.mp (List.all_eq_true.mp zhh_ok0 y (List.mem_range.mpr hy)) q hq
  simp only [Bool.and_eq_true, Bool.or_eq_true] at h1
  refine ⟨?_, of_decide_eq_true h1.2⟩
  rcases h1.1 with (h | h) | h
  · exact Or.inl (Nat.eq_of_beq_eq_true h)
  · exact Or.inr (Or.inl (Nat.eq_of_beq_eq_true h))
  · exact Or.inr (Or.inr (Nat.eq_of_beq_eq_true h))
theorem zcl_in : Cond.classLink "LoopTracerLaw" 13 (zEx 0) ∈ zgw ∧ Cond.classLink "LoopTracerLaw" 15 (zEx 1) ∈ zgw ∧ Cond.classLink "LoopTracerLaw" 27 (zEx 2) ∈ zgw ∧ Cond.castable (zEx 0) (zEx 0) ∈ zNw ∧ Cond.castable (zEx 1) (zEx 1) ∈ zNw ∧ Cond.castable (zEx 2) (zEx 2) ∈ zNw := by decide +kernel
theorem zct_ok {ct : Nat} (h : ct = 13 ∨ ct = 15 ∨ ct = 27) : ct ≠ 0 ∧ zct ct < 3 ∧ Cond.classLink "LoopTracerLaw" ct (zEx (zct ct)) ∈ zgw := by
  obtain ⟨w0, w1, w2, -⟩ := zcl_in
  rcases h with rfl | rfl | rfl
  · exact ⟨by decide, by decide, w0⟩
  · exact ⟨by decide, by decide, w1⟩
  · exact ⟨by decide, by decide, w2⟩
theorem zfalse {b : Bool} (h : (!b) = true) : b = false := by
  cases b
  · rfl
  · cases h
theorem zhnd_inv {y pc E k pc' : Nat} (h : zhnd y pc E = some (k, pc')) : ∃ pre x suf, zhh y = pre ++ x :: suf ∧ (∀ z ∈ pre, (Nat.ble z.1 pc && Nat.blt pc z.2.1 && Nat.beq (zct z.2.2.2) E) = false) ∧ x.1 ≤ pc ∧ pc < x.2.1 ∧ zct x.2.2.2 = E ∧
    ((∃ n w, ztab y x.2.2.1 = some (.astore_n n, 1, w) ∧ k = n.val ∧ pc' = x.2.2.1 + 1) ∨ (∃ n w, ztab y x.2.2.1 = some (.astore n, 2, w) ∧ k = n ∧ pc' = x.2.2.1 + 2)) := by
  unfold zhnd at h
  split at h
  · rename_i x hx
    obtain ⟨h1, pre, suf, h2, h3⟩ := List.find?_eq_some_iff_append.mp hx
    simp only [Bool.and_eq_true] at h1
    obtain ⟨⟨h4, h5⟩, h6⟩ := h1
    refine ⟨pre, x, suf, h2, fun z hz => zfalse (h3 z hz), Nat.le_of_ble_eq_true h4, zblt h5, Nat.eq_of_beq_eq_true h6, ?_⟩
    split at h
    · rename_i n w hw
      have h9 := Option.some.inj h
      exact Or.inl ⟨n, w, hw, (congrArg Prod.fst h9).symm, (congrArg Prod.snd h9).symm⟩
    · rename_i n w hw
      have h9 := Option.some.inj h
      exact Or.inr ⟨n, w, hw, (congrArg Prod.fst h9).symm, (congrArg Prod.snd h9).symm⟩
    · cases h
  · cases h
section ZCT
variable {D : va_G} {b0 : Nat} {o sa : Nat → Nat} {y d : Nat} {h0 : zS} {p : Program} {l : Launch} {e : Env} {R : Room} {s : State} {m : MethodId} {args : Array Value} {below : List Frame} {meth : Method} {c : Code} {H : Heap} {locs : List Loc} {la : Array Slot} {cells slots : Nat} {Q : State → Prop}
variable {pc : Nat} {ls st : List Value} {h : zS}
set_option maxHeartbeats 8000000 in
theorem zcall_thr (M : zMx D b0 o sa y (d + 1) p l R s m args meth c) (hy : y < zN) (S : zSt D b0 o y h0 s h ls H locs la cells slots) {a : Nat} {as rest : List Value} (hc : zcall y pc st h = some (a, as, rest)) {E k9 pc' : Nat} {l' : List Value} {h1 : zS} {mc ms : Nat}
    (hm1 : h.1 ≤ h1.1) (hm2 : h.2.1 ≤ h1.2.1) (e1 : mc = h1.1 - h.1) (e2 : ms = h1.2.1 - h.2.1) (hc1 : h1.1 - h0.1 ≤ R.cells) (hc2 : h1.2.1 - h0.2.1 ≤ R.slots)
    (hM : vx_Met l (znm a) (zcw a :: zgw) (zrm d mc ms) (zPc D b0 o sa l as h) (fun _ _ _ _ => False) (zXr D b0 o E h1) mc ms (fun q => b0 ≤ q)) (hn : zhnd y pc E = some (k9, pc')) (hl' : zst1 ls k9 zJ = some l') (hv9 : zkd a = 0)
    (k : zK D b0 o y h0 p l e R s m args below meth c Q (pc', l', [], h1)) : W p l e R s m args below meth c H locs cells slots Q (F0 m pc la (st.map (ztv (zad b0 o)))) := by
  have hok := zall_I hy
  have hpre := zpre M S as
  obtain ⟨hx, hb, hml, hown, hts, hr, hlk, hnm, htb, OK, hRf, hRl⟩ := M
  have hcap : cells + mc ≤ R.cells ∧ slots + ms ≤ R.slots := by
    obtain ⟨-, -, -, g1, g2, g3, g4⟩ := S
    omega
  have hsz : (la.size) = zml y := S.2.2.1.2.1
  rcases zcall_inv hc with ⟨i, b, q, p0, fs, A, ht, rfl, hA, rfl, hg, hrl⟩ | ⟨i, b, kk, q, A, ht, hk, rfl, hA, rfl, hrl⟩ | ⟨i, b, kk, q, p0, A, ht, hk, rfl, hA, rfl, hrl⟩
  · obtain ⟨hd, hX⟩ := zokI_spec (hok pc) ht
    have hX : (zhas q (.methodLink (znm y).cls i (znm a)) && Nat.beq 0 0 && Nat.blt a zN && zokPar a b && (zhh a).isEmpty && Nat.beq (zkd a) 0) = true := hX
    simp only [Bool.and_eq_true] at hX
    obtain ⟨⟨⟨⟨⟨w1, -⟩, w2⟩, w3⟩, w4⟩, w5⟩ := hX
    have hkd : zkd a = 0 := Nat.eq_of_beq_eq_true w5
    have hpar : ∀ sig, parseMethodDescriptor (znm a).desc = some sig → b = sig.parameters.length := by
      intro sig hsig
      have h9 := of_decide_eq_true w3
      rw [hsig] at h9
      exact (Option.some.inj h9).symm
    obtain ⟨n1, n2, -, -, n5, n6, n7, n8, n9, n10⟩ := zall_M (zblt w2) (by rw [hkd]; decide)
    have hh : zhh a = [] := List.isEmpty_iff.mp w4
    have hat : va_at D vwCl (zad b0 o p0, .inr (zci a, fs.map (ztv (zad b0 o)))) H := (S.1.2.2 p0 _ hg).2.2
    obtain ⟨z1, z2⟩ := n10 hkd
    obtain ⟨r', er, cell, q1, q2, q3, -⟩ := hat
    have hcls : s.vm.findClass (znm a).cls = some cell.cls := by rw [q2, ← z2]; exact (OK.2.2.1.1 (zci a) _ (zcl_get z1)).2.1
    have hsum := zsum (zad b0 o) rest 4 hrl
    have hrun : vx_Run p l e R s m args below meth c H locs cells slots mc ms (F0 m pc la ((A ++ Value.ref p0 :: rest).map (ztv (zad b0 o)))) (rest.map (ztv (zad b0 o))) (fun _ _ _ => False) (zXr D b0 o E h1) (fun q => b0 ≤ q) := by
      refine vx_runV (C := (znm a).cls) (index := i) (bytes := zcode a) (maxL := zml a) (ret := zrt a) (b := zad b0 o p0) (As := (A.map (ztv (zad b0 o))).reverse) (Ts := zgw) (nL := zml y) ⟨hx, hb, hml, hown, hts⟩ hM ⟨⟨rfl, rfl, by rw [hRf]; exact Nat.le_refl _, by rw [hRl]; show 8 + (zml a + 11) + (39 * d + 29) ≤ _; omega, pay_in hts (zgood n1), by rw [zcw_nil hh]; exact List.mem_cons_self, by rw [← zcw_nil hh]; exact hts _ n1, hts _ n5, ⟨n8, n9⟩, hpar, hts _ (zhas_in w1)⟩, hts _ (n2 hkd).1, hts _ (n2 hkd).2⟩
        ⟨zPc_blind D b0 o sa l _ h, ⟨cell, q1, by rw [q3]; rfl, hcls⟩, fun U hU hW => ?_⟩ rfl (by rw [List.length_reverse, List.length_map]; exact hA) hsz (by show (A ++ Value.ref p0 :: rest).map _ = _; rw [List.map_append, List.reverse_reverse]; rfl) (by show 2 * 0 + _ ≤ 8; omega) hd hcap
      have := hpre U hU hW
      rw [List.map_cons, List.map_reverse] at this
      exact this
    intro T hT X
    rcases hrun T hT X with ⟨v', st₀, t, T', L, f0, X', hL, f1, f2, hff, go⟩ | ⟨q9, st₀, t, T', L, En, ce, f0, X', hL, f1, f2, ⟨rfl, hE3, hrel, hF⟩, hce, hcv, hcl, go⟩
    · exact hff.elim
    · obtain ⟨hR, hS, hLr, g1, g2, g3, g4⟩ := S
      have hz : H.size ≤ T'.heap.size := by rw [f1, ← f0]; exact hF.1
      have hal : t.vm.Alike s.vm := by rw [← f2]; exact X'.warmed.alike.symm
      have S' : zSt D b0 o y h0 s h1 ls T'.heap (locs ++ L) la (cells + mc) (slots + ms) := by
        refine ⟨by rw [f1]; exact hrel.moved hal, ⟨Nat.le_trans hS.1 hz, fun q u1 u2 => ?_, fun q hq => ?_⟩, hLr, by omega, by omega, by omega, by omega⟩
        · have h9 := hF.2 q (by rw [f0]; exact Nat.lt_of_lt_of_le u1 hS.1) u2
          rw [f1, h9, f0]
          exact hS.2.1 q u1 u2
        · rcases List.mem_append.mp hq with h | h
          · exact hS.2.2 q h
          · exact hL q h
      obtain ⟨pre, x, suf, s1, s2, s3, s4, s5, s6⟩ := zhnd_inv hn
      have hxin : x ∈ zhh y := by rw [s1]; exact List.mem_append_right _ List.mem_cons_self
      obtain ⟨c1, c2⟩ := zhh_ok hy hxin
      obtain ⟨c3, c4, c5⟩ := zct_ok c1
      rw [s5] at c5
      rw [c2] at hown
      have hcast : (Cond.castable (zEx E) (zEx E)).before args s = true := by
        obtain ⟨-, -, -, v0, v1, v2⟩ := zcl_in
        match E, hE3 with
        | 0, _ => exact va_Nw.use rfl (OK.2.2.2.1 _ v0)
        | 1, _ => exact va_Nw.use rfl (OK.2.2.2.1 _ v1)
        | 2, _ => exact va_Nw.use rfl (OK.2.2.2.1 _ v2)
      have hsplit : c.exceptionTable.toList = tableOf pre ++ (⟨x.1, x.2.1, x.2.2.1, x.2.2.2⟩ : ExceptionTableEntry) :: tableOf suf := by rw [htb, s1]; simp [tableOf]
      have kW : W p l e R s m args below meth c T'.heap (locs ++ L) (cells + mc) (slots + ms) Q (F0 m x.2.2.1 la [.ref q9]) := by
        rcases s6 with ⟨n, w, t1, rfl, rfl⟩ | ⟨n, w, t1, rfl, rfl⟩
        · obtain ⟨hd9, -⟩ := zokI_spec (hok x.2.2.1) t1
          exact lv_astore_n hx hb hd9 rfl hLr.has (by rw [← hLr.1]; exact (zst1_spec hl').1) rfl (fun la' hl => k _ _ la' _ _ (S'.loc (hLr.of1 hl' (fun q => absurd rfl q) hl)))
        · obtain ⟨hd9, -⟩ := zokI_spec (hok x.2.2.1) t1
          exact lv_astore hx hb hd9 hLr.has (by rw [← hLr.1]; exact (zst1_spec hl').1) rfl (fun la' hl => k _ _ la' _ _ (S'.loc (hLr.of1 hl' (fun q => absurd rfl q) hl)))
      obtain ⟨t2, a1, b1⟩ := zc_catch (own := "LoopTracerLaw") (name := zEx E) (E := zEx E) (ce := ce) (pc := pc) (rest := rest.map (ztv (zad b0 o))) hown (tableOf pre) ⟨x.1, x.2.1, x.2.2.1, x.2.2.2⟩ (tableOf suf) hsplit (fun z hz => by
        obtain ⟨z', hz', rfl⟩ := List.mem_map.mp hz
        have h9 := s2 z' hz'
        have hzin : z' ∈ zhh y := by rw [s1]; exact List.mem_append_left _ hz'
        obtain ⟨d1, -⟩ := zhh_ok hy hzin
        obtain ⟨d3, d4, d5⟩ := zct_ok d1
        by_cases hcv9 : z'.1 ≤ pc ∧ pc < z'.2.1
        · have hne : zct z'.2.2.2 ≠ E := by
            intro q
            rw [q] at h9
            have t1 : Nat.ble z'.1 pc = true := Nat.ble_eq_true_of_le hcv9.1
            have t2 : Nat.blt pc z'.2.1 = true := Nat.ble_eq_true_of_le hcv9.2
            have t3 : Nat.beq E E = true := Nat.beq_refl E
            rw [t1, t2, t3] at h9
            cases h9
          exact Or.inr ⟨d3, zEx (zct z'.2.2.2), hts _ d5, OK.2.2.2.2.2.2.2.2.2.1 E (zct z'.2.2.2) hE3 d4 (Ne.symm hne)⟩
        · left
          show (decide (z'.1 ≤ pc) && decide (pc < z'.2.1)) = false
          rw [Bool.and_eq_false_iff]
          by_cases hq : z'.1 ≤ pc
          · right; exact decide_eq_false (fun w => hcv9 ⟨hq, w⟩)
          · left; exact decide_eq_false hq) (by show (decide (x.1 ≤ pc) && decide (pc < x.2.1)) = true; rw [decide_eq_true s3, decide_eq_true s4]; rfl) c3 (hts _ c5) hcast (by rw [f1]; exact hce) hcv hcl kW T' rfl X'
      exact ⟨t2, go.trans a1, b1⟩
  · obtain ⟨hd, hX⟩ := zokI_spec (hok pc) ht
    rcases hk with rfl | rfl
    · have hX : (zhas q (.methodLink (znm y).cls i (znm a)) && Nat.blt a zN && zokPar a b && Nat.beq (zkd a) 1) = true := hX
      simp only [Bool.and_eq_true] at hX
      have := Nat.eq_of_beq_eq_true hX.2
      omega
    · have hX : (zhasN q (.methodLinkNest (znm y).cls i (znm a) "LoopTracer") && Nat.blt a zN && zokPar a b && (zhh a).isEmpty && Nat.beq (zkd a) 1) = true := hX
      simp only [Bool.and_eq_true] at hX
      have := Nat.eq_of_beq_eq_true hX.2
      omega
  · obtain ⟨hd, hX⟩ := zokI_spec (hok pc) ht
    rcases hk with rfl | rfl
    · have hX : (zhas q (.methodLink (znm y).cls i (znm a)) && Nat.blt a zN && zokPar a b && (zhh a).isEmpty && decide ((znm a).name = "<init>") && decide (zrt a = none) && Nat.beq (zkd a) 2) = true := hX
      simp only [Bool.and_eq_true] at hX
      have := Nat.eq_of_beq_eq_true hX.2
      omega
    · have hX : (zhasN q (.methodLinkNest (znm y).cls i (znm a) "LoopTracer") && Nat.blt a zN && zokPar a b && (zhh a).isEmpty && decide ((znm a).name = "<init>") && decide (zrt a = none) && Nat.beq (zkd a) 2) = true := hX
      simp only [Bool.and_eq_true] at hX
      have := Nat.eq_of_beq_eq_true hX.2
      omega
end ZCT
