/-! THE LAW FROM ITS ENTRY, on the machine itself: begun from the skeleton's text -/
def R_law : String := "LoopTracerLaw"
def lw_P (b : Addr) (xs : List Int32) (args : Array Value) (s : State) : Prop := args = #[.ref b] ∧ s.IntsAt b xs ∧ xs.length ≤ 2049 ∧ (Jvm.Cond.and given_1 narrow_1).before args s = true
def lw_Q (_ : Array Value) (s : State) (o : Outcome) (t : State) : Prop := o = .returned (some (.int 1)) ∧ Framed s o t [] 601024 7292999
def lw_Z (below : List Frame) (a : Array Value) (s : State) : State → Prop := fun t => ∃ o, t.status = .running ∧ Ended t below o ∧ lw_Q a s o t
/-- what holds at the law's entry: the machine, the code, the tables' words (any of lw_tbl by 'hts w (by decide +kernel)'), the script of L ints xs at the cell b, what the Statement gives of the start (any of its parts by flat_of_before) -/
def lw_At (p : Program) (s : State) (m : MethodId) (meth : Method) (c : Code) (b L : Nat) (xs : Nat → Int32) : Prop :=
  p.tables.exec = Jvm.exec ∧ c.code = code ∧ meth.sig.returnType = ret ∧ c.maxLocals = 8 ∧ s.vm.findClass R_law = some m.cls ∧ (∀ w ∈ lw_tbl, w.before #[Value.ref b] s = true) ∧ va_X b L xs s s.heap ∧ b < s.heap.size ∧ meth.locks = false ∧ (Jvm.Cond.and given_1 narrow_1).before #[Value.ref b] s = true
/-- the text of a constant -/
def saOf (s : State) (k : Nat) : Nat := match (Term.string "LoopTracer" k).eval #[] s none [] s with
  | some (.ref a) => a
  | _ => 0
def lw_gn : List Cond := flatC (Jvm.Cond.and given_1 narrow_1)
theorem st_takes : ∀ j, j < 27 → Cond.eq (.elem (.static "LoopTracer" "TAKES" "[I") (.int (Int32.ofNat j))) (.int (Int32.ofNat (tk j))) ∈ lw_gn := by decide +kernel
theorem st_gives : ∀ j, j < 27 → Cond.eq (.elem (.static "LoopTracer" "GIVES" "[I") (.int (Int32.ofNat j))) (.int (Int32.ofNat (pt j))) ∈ lw_gn := by decide +kernel
theorem st_len : Cond.arrayOf (.static "LoopTracer" "TAKES" "[I") .int ∈ lw_gn ∧ Cond.eq (.length (.static "LoopTracer" "TAKES" "[I")) (.int 27) ∈ lw_gn ∧ Cond.arrayOf (.static "LoopTracer" "GIVES" "[I") .int ∈ lw_gn ∧ Cond.eq (.length (.static "LoopTracer" "GIVES" "[I")) (.int 27) ∈ lw_gn := by decide +kernel
theorem st_lay : Cond.laysStatic "LoopTracer" "TAKES" "[I" ∈ lw_tbl ∧ Cond.laysStatic "LoopTracer" "GIVES" "[I" ∈ lw_tbl ∧ Cond.laysStatic Bundle.tN "UNASSIGNED_STACK" Bundle.steD ∈ lw_tbl ∧ Cond.laysStatic Bundle.tN "SUPPRESSED_SENTINEL" Bundle.listD ∈ lw_tbl ∧ Cond.initialized "LoopTracer" ∈ lw_tbl ∧ Cond.initialized Bundle.tN ∈ lw_tbl := by decide +kernel
theorem st_thr : Cond.isRef (.static Bundle.tN "UNASSIGNED_STACK" Bundle.steD) ∈ lw_gn ∧ Cond.isRef (.static Bundle.tN "SUPPRESSED_SENTINEL" Bundle.listD) ∈ lw_gn := by decide +kernel
theorem st_nc : ∀ i, i < 3 → ∀ j, j < 3 → i ≠ j → Cond.not (.castable (zEx i) (zEx j)) ∈ lw_gn := by decide +kernel
theorem st_ao : Cond.arrayOver (.object "LoopTracer$Trace") ∈ lw_tbl ∧ Cond.arrayOver (.object "LoopTracer$Path") ∈ lw_tbl := by decide +kernel
theorem st_str : (∀ t ∈ zstrs, Cond.stringRef "LoopTracer" t.1 t.2 ∈ lw_tbl) ∧ ∀ t ∈ zstrs, Cond.exactly (.string "LoopTracer" t.1) "java/lang/String" ∈ lw_gn := by decide +kernel
section WST
variable {s : State} {args : Array Value}
theorem st_K (hts : ∀ w ∈ lw_tbl, w.before args s = true) : ∃ D : va_G, va_K D vwCl [] s := by
  have h1 : ∀ a, a < 10 → ∃ q : ClassId × (Nat → Nat), u_Kn s (zcl a).1 (zcl a).2.1 (zcl a).2.2 q.1 q.2 := by
    intro a ha
    obtain ⟨cC, iS, h⟩ := u_known (C := (zcl a).1) (T := (zcl a).2.1) (N := (zcl a).2.2) (n := (zcl a).2.2) hts (fun w hw => (List.mem_filter.mp (zin_ws ha w hw)).1) (hts _ (List.mem_filter.mp (zinst_in ha).1).1)
    exact ⟨(cC, iS), h⟩
  obtain ⟨q0, -⟩ := h1 0 (by decide)
  have h2 : ∀ a, ∃ q : ClassId × (Nat → Nat), a < 10 → u_Kn s (zcl a).1 (zcl a).2.1 (zcl a).2.2 q.1 q.2 := by
    intro a
    by_cases ha : a < 10
    · obtain ⟨q, hq⟩ := h1 a ha
      exact ⟨q, fun _ => hq⟩
    · exact ⟨q0, fun h => absurd h ha⟩
  obtain ⟨F, hF⟩ := Classical.axiomOfChoice h2
  refine ⟨(fun k => (F k).1, fun k => (F k).2), fun k q hq => ?_, fun k q h => by simp at h⟩
  have hk : k < 10 := (List.getElem?_eq_some_iff.mp hq).1
  have e : zcl k = q := by
    unfold zcl
    rw [List.getD_eq_getElem?_getD, hq]
    rfl
  have := hF k hk
  rw [e] at this
  exact this
theorem st_T {n : String} {g : Nat → Nat} (hgn : ∀ w ∈ lw_gn, w.before args s = true) (h1 : Cond.arrayOf (.static "LoopTracer" n "[I") .int ∈ lw_gn) (h2 : Cond.eq (.length (.static "LoopTracer" n "[I")) (.int 27) ∈ lw_gn) (h3 : ∀ j, j < 27 → Cond.eq (.elem (.static "LoopTracer" n "[I") (.int (Int32.ofNat j))) (.int (Int32.ofNat (g j))) ∈ lw_gn) : ∃ t : Nat, (Term.static "LoopTracer" n "[I").eval args s none [] s = some (.ref t) ∧ va_T .int t 27 (fun j => .int (Int32.ofNat (g j))) (fun q => s.heap.size ≤ q) s s.heap :=
  va_Tof (by decide) (hgn _ h1) (va_eqt (hgn _ h2)) (fun j hj => va_eqt (hgn _ (h3 j hj))) (fun _ h => Nat.not_le.mpr h)
theorem st_sa (hts : ∀ w ∈ lw_tbl, w.before args s = true) (hgn : ∀ w ∈ lw_gn, w.before args s = true) : ∀ t ∈ zstrs, vk_R "LoopTracer" t.1 t.2 (saOf s t.1) s := by
  intro t ht
  obtain ⟨a, -, -, -, h, -⟩ := Cond.exactly_spec (hgn _ (st_str.2 t ht))
  have h : (Term.string "LoopTracer" t.1).eval #[] s none [] s = some (.ref a) := h
  have e : saOf s t.1 = a := by
    unfold saOf
    rw [h]
  rw [e]
  exact vk_R.of (hts _ (st_str.1 t ht)) h
theorem st_Nw (hts : ∀ w ∈ lw_tbl, w.before args s = true) : ∀ w ∈ zNw, va_Nw w s := by
  intro w hw
  obtain ⟨h1, h2⟩ := List.mem_filter.mp hw
  have h3 := hts w h1
  cases w <;> first
    | exact va_Nw.of rfl h3
    | cases h2
/-- where the script and the tables lie -/
def oAt (b ta tb k : Nat) : Nat := bif Nat.beq k 0 then b else bif Nat.beq k 1 then ta else tb
theorem st_OK {l : Launch} {b ta tb : Nat} {D : va_G} (hst : l.stackTraces = false) (hts : ∀ w ∈ lw_tbl, w.before args s = true) (hgn : ∀ w ∈ lw_gn, w.before args s = true) (hK : va_K D vwCl [] s) (hta : (Term.static "LoopTracer" "TAKES" "[I").eval args s none [] s = some (.ref ta)) (htb : (Term.static "LoopTracer" "GIVES" "[I").eval args s none [] s = some (.ref tb)) : zOK D s.heap.size (oAt b ta tb) (saOf s) l s := by
  have hA : ∀ a : Nat, a < s.heap.size → ¬ (fun q : Nat => s.heap.size ≤ q) a := fun _ h => Nat.not_le.mpr h
  obtain ⟨y1, y2, y3, y4, y5, y6⟩ := st_lay
  exact ⟨hst, Nat.le_refl _, hK, st_Nw hts, va_Zof (hts _ y1) (hts _ y5) hta hA, va_Zof (hts _ y2) (hts _ y5) htb hA, st_sa hts hgn, vx_Zqof (hts _ y3) (hts _ y6) (hgn _ st_thr.1) hA, vx_Zqof (hts _ y4) (hts _ y6) (hgn _ st_thr.2) hA, fun i j hi hj hn => va_Nc.of (hgn _ (st_nc i hi j hj hn)), va_AO.of (hts _ st_ao.1), va_AO.of (hts _ st_ao.2)⟩
theorem st_Rel {D : va_G} {b ta tb L : Nat} {xs : Nat → Int32} (hX : va_X b L xs s s.heap) (hb : b < s.heap.size) (h1 : va_T .int ta 27 (fun j => .int (Int32.ofNat (tk j))) (fun q => s.heap.size ≤ q) s s.heap) (h2 : va_T .int tb 27 (fun j => .int (Int32.ofNat (pt j))) (fun q => s.heap.size ≤ q) s s.heap) : zRel D s.heap.size (oAt b ta tb) s (1000, 0, G0 L xs (fun j => Int32.ofNat (tk j)) (fun j => Int32.ofNat (pt j))) s.heap := by
  refine ⟨Nat.le_refl _, ?_, fun k e he => ?_⟩
  · rw [zad_new _ _ (Nat.le_refl _)]
    exact (Nat.add_zero _).symm
  · have he : G0 L xs (fun j => Int32.ofNat (tk j)) (fun j => Int32.ofNat (pt j)) k = some e := he
    by_cases e0 : k = 0
    · subst e0
      cases he
      refine ⟨by show 0 < 1000; decide, fun _ => hb, xs, rfl, ?_⟩
      obtain ⟨scr, x1, x2, x3, x4, x5⟩ := hX
      exact ⟨scr, x1, x2, x3, Nat.le_of_eq x4.symm, by rw [x4], x5, Nat.not_le.mpr hb⟩
    · by_cases e1 : k = 1
      · subst e1
        cases he
        exact ⟨by show 1 < 1000; decide, fun _ => Nat.not_le.mp h1.out, _, rfl, h1⟩
      · by_cases e2 : k = 2
        · subst e2
          cases he
          exact ⟨by show 2 < 1000; decide, fun _ => Nat.not_le.mp h2.out, _, rfl, h2⟩
        · unfold G0 at he
          rw [ybeq e0, ybeq e1, ybeq e2] at he
          cases he
end WST
/-- from the entry, for every script of at most 2049 ints, the law comes to its end with true -/
theorem whole_start {p : Program} {e : Env} {s : State} {m : MethodId} {below : List Frame} {meth : Method} {c : Code} (l : Launch) {b L : Nat} {xs : Nat → Int32} (hL : L ≤ 2049) (hst : l.stackTraces = false) (hnm : meth.name = "law") (hex : c.exceptionTable.toList = []) (C0 : lw_At p s m meth c b L xs) : W p l e room_1 s m #[Value.ref b] below meth c s.heap [] 0 0 (lw_Z below #[Value.ref b] s) (entryFrame m ([Value.ref b] : List Value).toArray 8) := by
  obtain ⟨hx, hb, hr, hml, hown, hts, hX, hbl, hlocks, hgv⟩ := id C0
  have hgn : ∀ w ∈ lw_gn, w.before #[Value.ref b] s = true := flat_of_before _ hgv
  obtain ⟨D, hK⟩ := st_K hts
  obtain ⟨ta, hta, hTa⟩ := st_T (g := tk) hgn st_len.1 st_len.2.1 st_takes
  obtain ⟨tb, htb, hTb⟩ := st_T (g := pt) hgn st_len.2.2.1 st_len.2.2.2 st_gives
  obtain ⟨n, hf, hrun, c1, c2⟩ := law_run (d := 0) (ns := L) (f := xs) (t1 := fun j => Int32.ofNat (tk j)) (t2 := fun j => Int32.ofNat (pt j)) hL (fun _ _ => rfl) (fun _ _ => rfl)
  have hM : zMx D s.heap.size (oAt b ta tb) (saOf s) m_L_law 9 p l room_1 s m #[Value.ref b] meth c :=
    ⟨hx, hb, hml, hown, fun w hw => hts w (List.mem_filter.mp hw).1, hr, hlocks, hnm, hex, st_OK hst hts hgn hK hta htb, rfl, rfl⟩
  have hzl : (zexp [Value.ref 0]).length ≤ zml m_L_law := by
    show 1 ≤ 8
    omega
  have hS : zSt D s.heap.size (oAt b ta tb) m_L_law (1000, 0, G0 L xs (fun j => Int32.ofNat (tk j)) (fun j => Int32.ofNat (pt j))) s (1000, 0, G0 L xs (fun j => Int32.ofNat (tk j)) (fun j => Int32.ofNat (pt j))) (zent m_L_law [.ref 0]) s.heap [] ((lg_sl ([Value.ref 0].map (ztv (zad s.heap.size (oAt b ta tb)))) ++ List.replicate (zml m_L_law - (lg_sl ([Value.ref 0].map (ztv (zad s.heap.size (oAt b ta tb))))).length) Slot.unset).toArray) 0 0 :=
    ⟨st_Rel hX hbl hTa hTb, va_S.rf, zent_LR (zad s.heap.size (oAt b ta tb)) m_L_law [.ref 0] hzl, Nat.le.refl, Nat.le.refl, (Nat.sub_self _).symm, (Nat.sub_self _).symm⟩
  have Wz := zsim (D := D) (b0 := s.heap.size) (o := oAt b ta tb) (sa := saOf s) (l := l) n 9 m_L_law 0 _ _ _ _ hf hrun (by decide) _ p e room_1 s m #[Value.ref b] below meth c s.heap [] _ 0 0 hM hS (by show hf.1 - 1000 ≤ 601024; omega) (by show hf.2.1 - 0 ≤ 7292999; omega)
  rw [lg_entry_eq]
  intro T hT X
  obtain ⟨t, a1, a2⟩ := Wz T hT X
  refine ⟨t, a1, ?_⟩
  obtain ⟨oc, q1, q2, ⟨q3, -, -⟩, Lc, qF, qf⟩ := a2
  have q3 : oc = .returned (some (.int 1)) := q3
  subst q3
  exact ⟨_, q1, q2, rfl, qF.1, qF.2.1, qF.2.2.weaken (fun x hx hlt => absurd (qf x hx) (Nat.not_le.mpr hlt)) (by show hf.1 - 1000 ≤ 601024; omega) (by show hf.2.1 - 0 ≤ 7292999; omega)⟩
