/-! contracts of the small machine's methods; returns and throws -/
def zPc (D : va_G) (b0 : Nat) (o sa : Nat → Nat) (l : Launch) (as : List Value) (h : zS) : Array Value → State → Prop := fun v U => v = (as.map (ztv (zad b0 o))).toArray ∧ zRel D b0 o U h U.heap ∧ zOK D b0 o sa l U
def zQr (D : va_G) (b0 : Nat) (o : Nat → Nat) (v : Option Value) (hf : zS) : Array Value → State → Outcome → State → Prop := fun _ st oc t => oc = .returned (v.map (ztv (zad b0 o))) ∧ zRel D b0 o t hf t.heap ∧ va_F (fun q => b0 ≤ q) st t
def zXr (D : va_G) (b0 : Nat) (o : Nat → Nat) (E : Nat) (hf : zS) : String → State → State → Prop := fun En st t => En = zEx E ∧ E < 3 ∧ zRel D b0 o t hf t.heap ∧ va_F (fun q => b0 ≤ q) st t
def zrm (d mc ms : Nat) : Room := { frames := d + 1, cells := mc, slots := ms, locals := 39 * d + 29 }
def zFin (D : va_G) (b0 : Nat) (o : Nat → Nat) (r : zR) (hf : zS) (below : List Frame) (args : Array Value) (s : State) (mc ms : Nat) : State → Prop := match r with
  | .inl v => MQ below (zQr D b0 o v hf) args s mc ms (fun q => b0 ≤ q)
  | .inr E => vx_MQ below (fun _ _ _ _ => False) (zXr D b0 o E hf) args s mc ms (fun q => b0 ≤ q)
theorem zPc_blind (D : va_G) (b0 : Nat) (o sa : Nat → Nat) (l : Launch) (as : List Value) (h : zS) : FrameBlind (zPc D b0 o sa l as h) := by
  intro a U g mk hq
  obtain ⟨h1, h2, h3⟩ := hq
  exact ⟨h1, h2.moved (U := U.calling g mk a) (Vm.Alike.refl U.vm), h3.moved (U := U.calling g mk a) (State.WarmedH.refl U) h3.2.1 (fun q _ _ => rfl)⟩
theorem zend_inv {d y pc : Nat} {st : List Value} {h hf : zS} {r : zR} (he : zend d y pc st h = some (r, hf)) :
    (∃ i a b q, ztab y pc = some (.new i, 3, a, b, 3, q) ∧ 6 ≤ d ∧ st.length ≤ 4 ∧ r = .inr a ∧ hf = (h.1 + 1, h.2.1 + 6, h.2.2)) ∨ (∃ i w v, ztab y pc = some (i, 1, w) ∧ zretv i st = some v ∧ zfitR (zrt y) v = true ∧ r = .inl v ∧ hf = h) := by
  unfold zend at he
  split at he
  · rename_i i a b q hq
    obtain ⟨h1, h2⟩ := zcond he
    rw [Bool.and_eq_true] at h1
    cases h2
    exact Or.inl ⟨i, a, b, q, hq, Nat.le_of_ble_eq_true h1.1, Nat.le_of_ble_eq_true h1.2, rfl, rfl⟩
  · rename_i i w hq
    split at he
    · rename_i v hv
      obtain ⟨h1, h2⟩ := zcond he
      cases h2
      exact Or.inr ⟨i, w, v, hq, hv, h1, rfl, rfl⟩
    · cases he
  · cases he
theorem zat_in {a : Nat} (ha : a < 3) : ∀ w ∈ vx_atS "LoopTracer" (zIc a) (zEx a) ["java/lang/RuntimeException", "java/lang/Exception"], (w ∈ zgw ∨ w ∈ zNw) ∧ vx_ot w = true := by
  match a, ha with
  | 0, _ => decide +kernel
  | 1, _ => decide +kernel
  | 2, _ => decide +kernel
theorem zNw_tab {w : Cond} (h : zIsN w = true) : w.onTables = true := by
  cases w <;> first
    | rfl
    | cases h
section ZEN
variable {D : va_G} {b0 : Nat} {o sa : Nat → Nat} {y d : Nat} {h0 : zS} {p : Program} {l : Launch} {e : Env} {R : Room} {s : State} {m : MethodId} {args : Array Value} {below : List Frame} {meth : Method} {c : Code} {H : Heap} {locs : List Loc} {la : Array Slot} {cells slots : Nat} {Q : State → Prop}
variable {pc : Nat} {ls st : List Value} {h : zS}
theorem zq_end (S : zSt D b0 o y h0 s h ls H locs la cells slots) {v : Option Value} {t : State} (ht : t.heap = H) (hW : s.WarmedH t.vm) : zQr D b0 o v h args s (.returned (v.map (ztv (zad b0 o)))) t :=
  ⟨rfl, by rw [ht]; exact S.1.moved hW.alike, S.2.1.F ht⟩
set_option maxHeartbeats 8000000 in
theorem zret_ok (M : zMx D b0 o sa y d p l R s m args meth c) {i : Instr} {v : Option Value} (hd : decode (zcode y) pc = .ok (i, 1)) (S : zSt D b0 o y h0 s h ls H locs la cells slots) (hv : zretv i st = some v) (hf : zfitR (zrt y) v = true) :
    W p l e R s m args below meth c H locs cells slots (MQ below (zQr D b0 o v h) args s (h.1 - h0.1) (h.2.1 - h0.2.1) (fun q => b0 ≤ q)) (F0 m pc la (st.map (ztv (zad b0 o)))) := by
  obtain ⟨hx, hb, hml, hown, hts, hr, hlk, hnm, htb, OK, hRf, hRl⟩ := M
  obtain ⟨hR, hS, hL, g1, g2, g3, g4⟩ := id S
  rw [← g3, ← g4]
  unfold zretv at hv
  split at hv
  · split at hv
    · rename_i x
      cases hv
      cases ht : zrt y with
      | none => rw [ht] at hf; cases hf
      | some t =>
        rw [ht] at hf hr
        exact W.zret hx hb hr (zfit_ok (zad b0 o) (v := .int x) hf).1 (fun t ht hW => zq_end (v := some (.int x)) S ht hW) hS.2.2 hd
    · cases hv
  · split at hv
    · rename_i x
      cases hv
      cases ht : zrt y with
      | none => rw [ht] at hf; cases hf
      | some t =>
        rw [ht] at hf hr
        have : t = .long := by
          cases t <;> first | rfl | cases hf
        subst this
        exact W.lret hx hb hr (fun t ht hW => zq_end (v := some (.long x)) S ht hW) hS.2.2 hd
    · cases hv
  · split at hv
    · rename_i x
      cases hv
      cases ht : zrt y with
      | none => rw [ht] at hf; cases hf
      | some t =>
        rw [ht] at hf hr
        have : (∃ n, t = .object n) ∨ ∃ w, t = .array w := by
          cases t <;> first | exact Or.inl ⟨_, rfl⟩ | exact Or.inr ⟨_, rfl⟩ | cases hf
        exact W.aret (v := .ref (zad b0 o x)) hx hb hr this (Or.inr ⟨_, rfl⟩) (fun t ht hW => zq_end (v := some (.ref x)) S ht hW) hS.2.2 hd
    · cases hv
      cases ht : zrt y with
      | none => rw [ht] at hf; cases hf
      | some t =>
        rw [ht] at hf hr
        have : (∃ n, t = .object n) ∨ ∃ w, t = .array w := by
          cases t <;> first | exact Or.inl ⟨_, rfl⟩ | exact Or.inr ⟨_, rfl⟩ | cases hf
        exact W.aret (v := .null) hx hb hr this (Or.inl rfl) (fun t ht hW => zq_end (v := some .null) S ht hW) hS.2.2 hd
    · cases hv
  · split at hv
    · cases hv
      cases ht : zrt y with
      | some t => rw [ht] at hf; cases hf
      | none =>
        rw [ht] at hr
        exact W.vret hx hb hr (fun t ht hW => zq_end (v := none) S ht hW) hS.2.2 hd
    · cases hv
  · cases hv
set_option maxHeartbeats 8000000 in
theorem zthrow_ok (M : zMx D b0 o sa y d p l R s m args meth c) {i a b q : Nat} (hd : decode (zcode y) pc = .ok (.new i, 3)) (hX : zokX y pc (.new i, 3, a, b, 3, q) = true) (S : zSt D b0 o y h0 s h ls H locs la cells slots) (h6 : 6 ≤ d) (hst : st.length ≤ 4)
    (hc1 : h.1 + 1 - h0.1 ≤ R.cells) (hc2 : h.2.1 + 6 - h0.2.1 ≤ R.slots) :
    W p l e R s m args below meth c H locs cells slots (vx_MQ below (fun _ _ _ _ => False) (zXr D b0 o a (h.1 + 1, h.2.1 + 6, h.2.2)) args s (h.1 + 1 - h0.1) (h.2.1 + 6 - h0.2.1) (fun q => b0 ≤ q)) (F0 m pc la (st.map (ztv (zad b0 o)))) := by
  obtain ⟨hx, hb, hml, hown, hts, hr, hlk, hnm, htb, OK, hRf, hRl⟩ := M
  obtain ⟨hR, hS, hL, g1, g2, g3, g4⟩ := id S
  have hX : (Nat.beq 3 3 && zhas q (.classLink (znm y).cls i (zEx a)) && Nat.blt a 3 && decide ((znm y).cls = "LoopTracer") && (zhh y).isEmpty && decide (decode (zcode y) (pc + 3) = .ok (.dup, 1)) && zstrs.any (fun t => decide (decode (zcode y) (pc + 4) = .ok (.ldc t.1, 2))) && decide (decode (zcode y) (pc + 6) = .ok (.invokespecial (zIc a), 3)) && decide (decode (zcode y) (pc + 9) = .ok (.athrow, 1))) = true := hX
  simp only [Bool.and_eq_true] at hX
  obtain ⟨⟨⟨⟨⟨⟨⟨⟨-, w1⟩, w2⟩, w3⟩, w4⟩, w5⟩, w6⟩, w7⟩, w8⟩ := hX
  have ha : a < 3 := zblt w2
  have hcl : (znm y).cls = "LoopTracer" := of_decide_eq_true w3
  rw [hcl] at hown w1
  obtain ⟨t, ht, w6⟩ := List.any_eq_true.mp w6
  have hsum := zsum (zad b0 o) st 4 hst
  obtain ⟨ok1, ok2, ok3, ok4, ok5, ok6, ok7, ok8, ok9, ok10, -⟩ := OK
  have hh : zhh y = [] := List.isEmpty_iff.mp w4
  have hini : (Cond.initialized (zEx a)).before args s = true := by
    obtain ⟨-, -, -, -, -, -, -, -, v0, v1, v2⟩ := zfix_in
    match a, ha with
    | 0, _ => exact hts _ v0
    | 1, _ => exact hts _ v1
    | 2, _ => exact hts _ v2
  refine zx_throwS (own := "LoopTracer") (cls := zEx a) (text := t.2) (names := ["java/lang/RuntimeException", "java/lang/Exception"]) (ik := i) (is := t.1) (ic := zIc a) (sa := sa t.1) hx hb ok1 hown (by match a, ha with | 0, _ => decide | 1, _ => decide | 2, _ => decide) (by decide) (hts _ (zhas_in w1)) hini (ok7 t ht)
    (fun w hw => ?_) (fun w hw => ?_) ok8 ok9 hS (by rw [hL.2.1, hml]) hd (of_decide_eq_true w5) (of_decide_eq_true w6) (of_decide_eq_true w7) (of_decide_eq_true w8) (fun x hx => ?_) (by rw [hRf]; show 2 + 3 < d + 1; omega) (by rw [hRl]; show _ + (13 * (2 + 1) + 43) ≤ _; omega) (by omega) (by omega) hlk (fun t' hal hz hq => ?_) hS.2.2 (by omega) (by omega)
  · rcases (zat_in ha w hw).1 with hw' | hw'
    · exact hts _ hw'
    · exact va_Nw.use (zNw_tab (List.mem_filter.mp hw').2) (ok4 w hw')
  · rcases List.mem_cons.mp hw with rfl | hw
    · rfl
    · rcases List.mem_cons.mp hw with rfl | hw
      · rfl
      · exact (zat_in ha w hw).2
  · rw [htb, hh] at hx
    cases hx
  · refine ⟨rfl, ha, (hR.moved hal).more 6 hz hq, ?_⟩
    exact ⟨by rw [hz]; exact Nat.le_trans hS.1 (Nat.le_succ _), fun q u1 u2 => (hq q (Nat.lt_of_lt_of_le u1 hS.1)).trans (hS.2.1 q u1 u2)⟩
theorem zend_ok (M : zMx D b0 o sa y d p l R s m args meth c) (hok : zokI y pc = true) (S : zSt D b0 o y h0 s h ls H locs la cells slots) {r : zR} {hf : zS} (he : zend d y pc st h = some (r, hf))
    (hc1 : hf.1 - h0.1 ≤ R.cells) (hc2 : hf.2.1 - h0.2.1 ≤ R.slots) :
    W p l e R s m args below meth c H locs cells slots (zFin D b0 o r hf below args s (hf.1 - h0.1) (hf.2.1 - h0.2.1)) (F0 m pc la (st.map (ztv (zad b0 o)))) := by
  rcases zend_inv he with ⟨i, a, b, q, ht, h6, hst, rfl, rfl⟩ | ⟨i, w, v, ht, hv, hfit, rfl, rfl⟩
  · obtain ⟨hd, hX⟩ := zokI_spec hok ht
    exact zthrow_ok M hd hX S h6 hst hc1 hc2
  · obtain ⟨hd, hX⟩ := zokI_spec hok ht
    exact zret_ok M hd S hv hfit
end ZEN
