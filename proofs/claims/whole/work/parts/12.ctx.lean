/-! what every method's state bears along: classes, words, tables, texts, what a throw needs -/
def zIsN : Cond → Bool
  | .methodLinkNest .. => true
  | .fieldLinkNest .. => true
  | .castable .. => true
  | .declares _ => true
  | _ => false
def zNw : List Cond := lw_tbl.filter zIsN
def zgw : List Cond := lw_tbl.filter goodWord
theorem zNw_warm {s U : State} (hW : s.WarmedH U.vm) {w : Cond} (hw : zIsN w = true) (h : va_Nw w s) : va_Nw w U := by
  cases w <;> first
    | exact va_Nw.warmM hW h
    | exact va_Nw.warmF hW h
    | exact va_Nw.warmC hW h
    | exact va_Nw.warmD hW h
    | cases hw
def zOK (D : va_G) (b0 : Nat) (o sa : Nat → Nat) (l : Launch) (U : State) : Prop :=
  l.stackTraces = false ∧ b0 ≤ U.heap.size ∧ va_K D vwCl [] U ∧ (∀ w ∈ zNw, va_Nw w U) ∧
  va_Z "LoopTracer" "TAKES" "[I" (.ref (o 1)) (fun q => b0 ≤ q) U U.heap ∧ va_Z "LoopTracer" "GIVES" "[I" (.ref (o 2)) (fun q => b0 ≤ q) U U.heap ∧
  (∀ t ∈ zstrs, vk_R "LoopTracer" t.1 t.2 (sa t.1) U) ∧ vx_Zq Bundle.tN "UNASSIGNED_STACK" Bundle.steD (fun q => b0 ≤ q) U U.heap ∧ vx_Zq Bundle.tN "SUPPRESSED_SENTINEL" Bundle.listD (fun q => b0 ≤ q) U U.heap ∧
  (∀ i j : Nat, i < 3 → j < 3 → i ≠ j → va_Nc (zEx i) (zEx j) U) ∧ va_AO "LoopTracer$Trace" U ∧ va_AO "LoopTracer$Path" U
theorem zOK.moved {D : va_G} {b0 : Nat} {o sa : Nat → Nat} {l : Launch} {s U : State} (h : zOK D b0 o sa l s) (hW : s.WarmedH U.vm) (hz : b0 ≤ U.heap.size) (hq : ∀ q : Nat, q < s.heap.size → ¬ b0 ≤ q → U.heap[q]? = s.heap[q]?) : zOK D b0 o sa l U := by
  obtain ⟨h1, h2, h3, h4, h5, h6, h7, h8, h9, h10, h11, h12⟩ := h
  have hal := hW.alike
  exact ⟨h1, hz, va_K.moved hal h3, fun w hw => zNw_warm hW (List.mem_filter.mp hw).2 (h4 w hw), va_Z.moved hal (h5.kept hq), va_Z.moved hal (h6.kept hq), fun t ht => vk_R.warm hW (h7 t ht), vx_Zq.moved hal (h8.kept hq), vx_Zq.moved hal (h9.kept hq), fun i j hi hj hn => va_Nc.moved hal (h10 i j hi hj hn), va_AO.moved hal h11, va_AO.moved hal h12⟩
/-- the frame that a walk of method y stands in -/
def zMx (D : va_G) (b0 : Nat) (o sa : Nat → Nat) (y d : Nat) (p : Program) (l : Launch) (R : Room) (s : State) (m : MethodId) (args : Array Value) (meth : Method) (c : Code) : Prop :=
  p.tables.exec = Jvm.exec ∧ c.code = zcode y ∧ c.maxLocals = zml y ∧ s.vm.findClass (znm y).cls = some m.cls ∧ (∀ w ∈ zgw, w.before args s = true) ∧ meth.sig.returnType = zrt y ∧ meth.locks = false ∧ meth.name = (znm y).name ∧
  c.exceptionTable.toList = tableOf (zhh y) ∧ zOK D b0 o sa l s ∧ R.frames = d + 1 ∧ R.locals = 39 * d + 29
def zSt (D : va_G) (b0 : Nat) (o : Nat → Nat) (y : Nat) (h0 : zS) (s : State) (h : zS) (ls : List Value) (H : Heap) (locs : List Loc) (la : Array Slot) (cells slots : Nat) : Prop :=
  zRel D b0 o s h H ∧ va_S (fun q => b0 ≤ q) s.heap H locs ∧ zLR (zad b0 o) ls la (zml y) ∧ h0.1 ≤ h.1 ∧ h0.2.1 ≤ h.2.1 ∧ cells = h.1 - h0.1 ∧ slots = h.2.1 - h0.2.1
theorem zhas_in {q : Nat} {w : Cond} (h : zhas q w = true) : w ∈ zgw := by
  unfold zhas at h
  rw [Bool.and_eq_true] at h
  exact List.mem_filter.mpr ⟨List.mem_of_getElem? (of_decide_eq_true h.1), h.2⟩
theorem zhasN_in {q : Nat} {w : Cond} (h : zhasN q w = true) (hn : zIsN w = true) : w ∈ zNw :=
  List.mem_filter.mpr ⟨List.mem_of_getElem? (of_decide_eq_true h), hn⟩
theorem zokI_spec {y pc : Nat} {e : zI} (h : zokI y pc = true) (he : ztab y pc = some e) : decode (zcode y) pc = .ok (e.1, e.2.1) ∧ zokX y pc e = true := by
  unfold zokI at h
  rw [he] at h
  simp only [Bool.and_eq_true] at h
  exact ⟨of_decide_eq_true h.1, h.2⟩
theorem zty_ok {a : Nat} (h : a < 10) : ∀ k, k < (zcl a).2.2 → parseFieldDescriptor ((zcl a).2.1 k).2.2.1 = some (zty a k) := by
  match a, h with
  | 0, _ => exact tyX0_ok
  | 1, _ => exact tyX1_ok
  | 2, _ => exact tyX2_ok
  | 3, _ => exact tyX3_ok
  | 4, _ => exact tyX4_ok
  | 5, _ => exact tyX5_ok
  | 6, _ => exact tyX6_ok
  | 7, _ => exact tyX7_ok
  | 8, _ => exact tyX8_ok
  | 9, _ => exact tyX9_ok
theorem znm_ok {a : Nat} (h : a < 10) : ∀ i, i < (zcl a).2.2 → ∀ j, j < (zcl a).2.2 → i ≠ j → ((zcl a).2.1 i).2.1 ≠ ((zcl a).2.1 j).2.1 := by
  match a, h with
  | 0, _ => exact nmX0
  | 1, _ => exact nmX1
  | 2, _ => exact nmX2
  | 3, _ => exact nmX3
  | 4, _ => exact nmX4
  | 5, _ => exact nmX5
  | 6, _ => exact nmX6
  | 7, _ => exact nmX7
  | 8, _ => exact nmX8
  | 9, _ => exact nmX9
theorem zcl_get {a : Nat} (h : a < 10) : vwCl[a]? = some ((zcl a).1, (zcl a).2.1, (zcl a).2.2) := by
  match a, h with
  | 0, _ => rfl
  | 1, _ => rfl
  | 2, _ => rfl
  | 3, _ => rfl
  | 4, _ => rfl
  | 5, _ => rfl
  | 6, _ => rfl
  | 7, _ => rfl
  | 8, _ => rfl
  | 9, _ => rfl
theorem zin_ws {a : Nat} (h : a < 10) : ∀ w ∈ u_ws (zcl a).1 (zcl a).2.1 (zcl a).2.2, w ∈ zgw := by
  match a, h with
  | 0, _ => decide +kernel
  | 1, _ => decide +kernel
  | 2, _ => decide +kernel
  | 3, _ => decide +kernel
  | 4, _ => decide +kernel
  | 5, _ => decide +kernel
  | 6, _ => decide +kernel
  | 7, _ => decide +kernel
  | 8, _ => decide +kernel
  | 9, _ => decide +kernel
theorem zinst_in {a : Nat} (h : a < 10) : Cond.instantiable (zcl a).1 (zcl a).2.2 ∈ zgw ∧ Cond.initialized (zcl a).1 ∈ zgw := by
  match a, h with
  | 0, _ => decide +kernel
  | 1, _ => decide +kernel
  | 2, _ => decide +kernel
  | 3, _ => decide +kernel
  | 4, _ => decide +kernel
  | 5, _ => decide +kernel
  | 6, _ => decide +kernel
  | 7, _ => decide +kernel
  | 8, _ => decide +kernel
  | 9, _ => decide +kernel
theorem zfix_in : Cond.instanceMethod objectInit ∈ zgw ∧ Cond.code objectInit ⟨#[0xb1]⟩ 1 none ∈ zgw ∧ Cond.native arraycopyName ∈ zgw ∧ Cond.static arraycopyName ∈ zgw ∧ Cond.initialized "java/lang/System" ∈ zgw ∧ Cond.arrayClass .int ∈ zgw ∧ Cond.arrayClass .long ∈ zgw ∧ Cond.arrayClass .boolean ∈ zgw ∧ Cond.initialized (zEx 0) ∈ zgw ∧ Cond.initialized (zEx 1) ∈ zgw ∧ Cond.initialized (zEx 2) ∈ zgw := by decide +kernel
