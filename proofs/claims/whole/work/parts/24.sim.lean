/-! the small machine's runs, as contracts -/
theorem zfin_inl {D : va_G} {b0 : Nat} {o : Nat → Nat} {v : Option Value} {hf : zS} {below : List Frame} {args : Array Value} {s : State} {mc ms : Nat} : zFin D b0 o (.inl v) hf below args s mc ms = MQ below (zQr D b0 o v hf) args s mc ms (fun q => b0 ≤ q) := rfl
theorem zfin_inr {D : va_G} {b0 : Nat} {o : Nat → Nat} {E : Nat} {hf : zS} {below : List Frame} {args : Array Value} {s : State} {mc ms : Nat} : zFin D b0 o (.inr E) hf below args s mc ms = vx_MQ below (fun _ _ _ _ => False) (zXr D b0 o E hf) args s mc ms (fun q => b0 ≤ q) := rfl
/-- what is shown of every run, by its fuel -/
def zSim (D : va_G) (b0 : Nat) (o sa : Nat → Nat) (l : Launch) (n : Nat) : Prop := ∀ (d y pc : Nat) (ls st : List Value) (h : zS) (r : zR) (hf : zS), zrun n d y pc ls st h = some (r, hf) → y < zN →
  ∀ (h0 : zS) (p : Program) (e : Env) (R : Room) (s : State) (m : MethodId) (args : Array Value) (below : List Frame) (meth : Method) (c : Code) (H : Heap) (locs : List Loc) (la : Array Slot) (cells slots : Nat),
    zMx D b0 o sa y d p l R s m args meth c → zSt D b0 o y h0 s h ls H locs la cells slots → hf.1 - h0.1 ≤ R.cells → hf.2.1 - h0.2.1 ≤ R.slots →
    W p l e R s m args below meth c H locs cells slots (zFin D b0 o r hf below args s (hf.1 - h0.1) (hf.2.1 - h0.2.1)) (F0 m pc la (st.map (ztv (zad b0 o))))
section ZSI
variable {D : va_G} {b0 : Nat} {o sa : Nat → Nat} {l : Launch}
set_option maxHeartbeats 8000000 in
/-- the body of a called method, from its entry -/
theorem zbody {n d a : Nat} {as : List Value} {h hf : zS} {r : zR} (IH : zSim D b0 o sa l n) (hr : zrun n d a 0 (zent a as) [] h = some (r, hf)) (ha : a < zN) (hlen : (zexp as).length ≤ zml a)
    {p : Program} {e : Env} {s : State} {m : MethodId} {args : Array Value} {below : List Frame} {meth : Method} {c : Code} {s₁ : State}
    (B : BodyLoose p l (znm a) (headSpec (zcw a :: zgw) (zrm d (hf.1 - h.1) (hf.2.1 - h.2.1))) (zcode a) (zml a) (zrt a) e s m args below meth c s₁) (hml : c.maxLocals = zml a) (htb : c.exceptionTable.toList = tableOf (zhh a)) (hP : zPc D b0 o sa l as h args s) :
    W p l e (headSpec (zcw a :: zgw) (zrm d (hf.1 - h.1) (hf.2.1 - h.2.1))).room s m args below meth c s.heap [] 0 0 (zFin D b0 o r hf below args s (hf.1 - h.1) (hf.2.1 - h.2.1)) (entryFrame m args (zml a)) := by
  obtain ⟨rfl, hrel, hok⟩ := hP
  have hts := atoms_spec (ws := zcw a :: zgw) B.pre
  rw [lg_entry_eq]
  have hM : zMx D b0 o sa a d p l (headSpec (zcw a :: zgw) (zrm d (hf.1 - h.1) (hf.2.1 - h.2.1))).room s m (as.map (ztv (zad b0 o))).toArray meth c :=
    ⟨B.exec, B.bytes, hml, findClass_of_methodNamed B.named, fun w hw => hts w (List.mem_cons_of_mem _ hw), B.returns, B.notSynchronized, (name_of_methodNamed B.named B.method).1, htb, hok, rfl, rfl⟩
  have hS : zSt D b0 o a h s h (zent a as) s.heap [] ((lg_sl (as.map (ztv (zad b0 o))) ++ List.replicate (zml a - (lg_sl (as.map (ztv (zad b0 o)))).length) Slot.unset).toArray) 0 0 :=
    ⟨hrel, va_S.rf, zent_LR (zad b0 o) a as hlen, Nat.le_refl _, Nat.le_refl _, (Nat.sub_self _).symm, (Nat.sub_self _).symm⟩
  exact IH d a 0 (zent a as) [] h r hf hr ha h p e _ s m _ below meth c s.heap [] _ 0 0 hM hS (Nat.le_refl _) (Nat.le_refl _)
theorem zempty {p : Program} {e : Env} {a : Nat} {S : Spec} {s : State} {m : MethodId} {args : Array Value} {below : List Frame} {meth : Method} {c : Code} {s₁ : State} (B : BodyLoose p l (znm a) S (zcode a) (zml a) (zrt a) e s m args below meth c s₁)
    (h : (Cond.code (znm a) (zcode a) (zml a) (zrt a)).before args s = true) : c.exceptionTable.toList = [] := by
  obtain ⟨meth9, c9, h1, h2, -, -, -, -, h7, -⟩ := Cond.code_spec B.named h
  cases Option.some.inj (h1.symm.trans B.method)
  cases Option.some.inj (h2.symm.trans (Stand.of_body B).code)
  rw [Array.isEmpty_iff.mp h7]
set_option maxHeartbeats 8000000 in
theorem zmet {n d a : Nat} {as : List Value} {h hf : zS} {v : Option Value} (IH : zSim D b0 o sa l n) (hr : zrun n d a 0 (zent a as) [] h = some (.inl v, hf)) (ha : a < zN) (hpl : plainName (znm a).cls = true) (hlen : (zexp as).length ≤ zml a) :
    Met l (znm a) (zcw a :: zgw) (zrm d (hf.1 - h.1) (hf.2.1 - h.2.1)) (zPc D b0 o sa l as h) (zQr D b0 o v hf) (hf.1 - h.1) (hf.2.1 - h.2.1) (fun q => b0 ≤ q) := by
  by_cases hh : zhh a = []
  · refine Met.ofW (cc := zcode a) (maxL := zml a) (ret := zrt a) (ws' := zgw) hpl (by rw [zcw_nil hh]) ?_
    intro p e s m args below meth c s₁ B hml hv
    have htb := zempty B (by rw [← zcw_nil hh]; exact atoms_spec (ws := zcw a :: zgw) B.pre _ List.mem_cons_self)
    exact zbody IH hr ha hlen B hml (by rw [htb, hh]; rfl) hv
  · refine va_MetW (cc := zcode a) (maxL := zml a) (ret := zrt a) (hh := zhh a) (ws' := zgw) hpl (by rw [zcw_cons hh]) ?_
    intro p e s m args below meth c s₁ B hml hv
    have htb := vx_table (x := znm a) B (by rw [← zcw_cons hh]; exact atoms_spec (ws := zcw a :: zgw) B.pre _ List.mem_cons_self)
    exact zbody IH hr ha hlen B hml htb hv
set_option maxHeartbeats 8000000 in
theorem zmetX {n d a : Nat} {as : List Value} {h hf : zS} {E : Nat} (IH : zSim D b0 o sa l n) (hr : zrun n d a 0 (zent a as) [] h = some (.inr E, hf)) (ha : a < zN) (hpl : plainName (znm a).cls = true) (hlen : (zexp as).length ≤ zml a) (hh : zhh a = []) :
    vx_Met l (znm a) (zcw a :: zgw) (zrm d (hf.1 - h.1) (hf.2.1 - h.2.1)) (zPc D b0 o sa l as h) (fun _ _ _ _ => False) (zXr D b0 o E hf) (hf.1 - h.1) (hf.2.1 - h.2.1) (fun q => b0 ≤ q) := by
  refine vx_ofW (cc := zcode a) (maxL := zml a) (ret := zrt a) (ws' := zgw) hpl (by rw [zcw_nil hh]) ?_
  intro p e s m args below meth c s₁ B hml hte hv
  have htb := zempty B (by rw [← zcw_nil hh]; exact atoms_spec (ws := zcw a :: zgw) B.pre _ List.mem_cons_self)
  exact zbody IH hr ha hlen B hml (by rw [htb, hh]; rfl) hv
theorem zcall_kd {y pc : Nat} (hy : y < zN) {st : List Value} {h : zS} {a : Nat} {as rest : List Value} (hc : zcall y pc st h = some (a, as, rest)) : a < zN ∧ zkd a ≠ 9 ∧ (zkd a = 0 → zhh a = []) := by
  have hok := zall_I hy pc
  rcases zcall_inv hc with ⟨i, b, q, p0, fs, A, ht, rfl, hA, rfl, hg, hrl⟩ | ⟨i, b, kk, q, A, ht, hk, rfl, hA, rfl, hrl⟩ | ⟨i, b, kk, q, p0, A, ht, hk, rfl, hA, rfl, hrl⟩
  · obtain ⟨hd, hX⟩ := zokI_spec hok ht
    have hX : (zhas q (.methodLink (znm y).cls i (znm a)) && Nat.beq 0 0 && Nat.blt a zN && zokPar a b && (zhh a).isEmpty && Nat.beq (zkd a) 0) = true := hX
    simp only [Bool.and_eq_true] at hX
    obtain ⟨⟨⟨⟨⟨w1, -⟩, w2⟩, w3⟩, w4⟩, w5⟩ := hX
    have := Nat.eq_of_beq_eq_true w5
    exact ⟨zblt w2, by omega, fun _ => List.isEmpty_iff.mp w4⟩
  · obtain ⟨hd, hX⟩ := zokI_spec hok ht
    rcases hk with rfl | rfl
    · have hX : (zhas q (.methodLink (znm y).cls i (znm a)) && Nat.blt a zN && zokPar a b && Nat.beq (zkd a) 1) = true := hX
      simp only [Bool.and_eq_true] at hX
      obtain ⟨⟨⟨w1, w2⟩, w3⟩, w5⟩ := hX
      have := Nat.eq_of_beq_eq_true w5
      exact ⟨zblt w2, by omega, by omega⟩
    · have hX : (zhasN q (.methodLinkNest (znm y).cls i (znm a) "LoopTracer") && Nat.blt a zN && zokPar a b && (zhh a).isEmpty && Nat.beq (zkd a) 1) = true := hX
      simp only [Bool.and_eq_true] at hX
      obtain ⟨⟨⟨⟨w1, w2⟩, w3⟩, w4⟩, w5⟩ := hX
      have := Nat.eq_of_beq_eq_true w5
      exact ⟨zblt w2, by omega, by omega⟩
  · obtain ⟨hd, hX⟩ := zokI_spec hok ht
    rcases hk with rfl | rfl
    · have hX : (zhas q (.methodLink (znm y).cls i (znm a)) && Nat.blt a zN && zokPar a b && (zhh a).isEmpty && decide ((znm a).name = "<init>") && decide (zrt a = none) && Nat.beq (zkd a) 2) = true := hX
      simp only [Bool.and_eq_true] at hX
      obtain ⟨⟨⟨⟨⟨⟨w1, w2⟩, w3⟩, w4⟩, w6⟩, w7⟩, w5⟩ := hX
      have := Nat.eq_of_beq_eq_true w5
      exact ⟨zblt w2, by omega, by omega⟩
    · have hX : (zhasN q (.methodLinkNest (znm y).cls i (znm a) "LoopTracer") && Nat.blt a zN && zokPar a b && (zhh a).isEmpty && decide ((znm a).name = "<init>") && decide (zrt a = none) && Nat.beq (zkd a) 2) = true := hX
      simp only [Bool.and_eq_true] at hX
      obtain ⟨⟨⟨⟨⟨⟨w1, w2⟩, w3⟩, w4⟩, w6⟩, w7⟩, w5⟩ := hX
      have := Nat.eq_of_beq_eq_true w5
      exact ⟨zblt w2, by omega, by omega⟩
set_option maxHeartbeats 8000000 in
/-- EVERY RUN of the small machine is one of the machine's own -/
theorem zsim (n : Nat) : zSim D b0 o sa l n := by
  induction n with
  | zero => intro d y pc ls st h r hf hr; cases hr
  | succ n IH =>
    intro d y pc ls st h r hf hr hy h0 p e R s m args below meth c H locs la cells slots M S hc1 hc2
    rcases zrun_inv hr with ⟨c', h1, h2⟩ | h1 | ⟨d', a, as, rest, h1, rfl, h3, ⟨v, h1', h4, h5⟩ | ⟨E, h1', k, l', h4, h5, h6, h7, h8⟩⟩
    · have a2 := zrun_size _ _ _ _ _ _ _ _ _ h2
      refine zstep_ok M (zall_I hy pc) S h1 (by omega) (by omega) ?_
      intro H' locs' la' cells' slots' S'
      exact IH _ _ _ _ _ _ _ _ h2 hy h0 p e R s m args below meth c H' locs' la' cells' slots' M S' hc1 hc2
    · exact zend_ok M (zall_I hy pc) S h1 hc1 hc2
    · obtain ⟨ha, hk9, -⟩ := zcall_kd hy h1
      have a1 := zrun_size _ _ _ _ _ _ _ _ _ h4
      have a2 := zrun_size _ _ _ _ _ _ _ _ _ h5
      refine zcall_ret M (zall_I hy pc) S h1 (v := v) (h1 := h1') a1.1 a1.2 rfl rfl (by omega) (by omega) (zmet IH h4 ha (zall_M ha hk9).2.2.2.2.2.2.1 h3) ?_
      intro H' locs' la' cells' slots' S'
      exact IH _ _ _ _ _ _ _ _ h5 hy h0 p e R s m args below meth c H' locs' la' cells' slots' M S' hc1 hc2
    · obtain ⟨ha, hk9, hh⟩ := zcall_kd hy h1
      have a1 := zrun_size _ _ _ _ _ _ _ _ _ h4
      have a2 := zrun_size _ _ _ _ _ _ _ _ _ h8
      refine zcall_thr M hy S h1 (E := E) (k9 := k.1) (pc' := k.2) (l' := l') (h1 := h1') a1.1 a1.2 rfl rfl (by omega) (by omega) (zmetX IH h4 ha (zall_M ha hk9).2.2.2.2.2.2.1 h3 (hh h5)) h6 h7 h5 ?_
      intro H' locs' la' cells' slots' S'
      exact IH _ _ _ _ _ _ _ _ h8 hy h0 p e R s m args below meth c H' locs' la' cells' slots' M S' hc1 hc2
end ZSI
