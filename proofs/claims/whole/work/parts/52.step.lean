/-! one step of the machine -/
def reck (o : Nat) (x y : Int32) : Int32 := match o with
  | 4 => x + y
  | 5 => x - y
  | 6 => x * y
  | 7 => x / y
  | 8 => x - x / y * y
  | 9 => x &&& y
  | 10 => x ||| y
  | 11 => x ^^^ y
  | 12 => x <<< ((y &&& 31) &&& 31)
  | 13 => x >>> ((y &&& 31) &&& 31)
  | 14 => if x < y then 1 else 0
  | 15 => if x = y then 1 else 0
  | 16 => -x
  | 17 => if x = 0 then 1 else 0
  | _ => 0
/-- an OP, an argument, the number of a place -/
def aop (cd : Nat → Int32) (pc : Nat) : Nat := (cd pc &&& 63).toNatClampNeg
def aarg (cd : Nat → Int32) (pc : Nat) : Int32 := cd pc >>> 6
def apl (x : Int32) : Nat := (x &&& 31).toNatClampNeg
theorem aop_eq (cd : Nat → Int32) (pc : Nat) : cd pc &&& 63 = Int32.ofNat (aop cd pc) ∧ aop cd pc ≤ 63 := by
  obtain ⟨n, h1, h2⟩ := n_and (x := cd pc) 63 (by decide)
  have h3 : cd pc &&& 63 = Int32.ofNat n := h2
  have : aop cd pc = n := by
    unfold aop
    rw [h3, n_cl (by omega)]
  rw [this]
  exact ⟨h3, h1⟩
theorem apl_eq (x : Int32) : x &&& 31 = Int32.ofNat (apl x) ∧ apl x ≤ 31 := by
  obtain ⟨n, h1, h2⟩ := n_and (x := x) 31 (by decide)
  have h3 : x &&& 31 = Int32.ofNat n := h2
  have : apl x = n := by
    unfold apl
    rw [h3, n_cl (by omega)]
  rw [this]
  exact ⟨h3, h1⟩
theorem apl_in (x : Int32) : zin (x &&& 31) 32 := by
  rw [(apl_eq x).1]
  exact n_in (by have := (apl_eq x).2; omega) (by decide)
def tk (o : Nat) : Nat := if o = 0 ∨ o = 1 ∨ o = 2 ∨ o = 21 then 0 else if (4 ≤ o ∧ o ≤ 15) ∨ o = 19 ∨ o = 26 then 2 else 1
def pt (o : Nat) : Nat := if o = 18 ∨ o = 19 then 2 else if o = 1 ∨ o = 2 ∨ (4 ≤ o ∧ o ≤ 17) ∨ o = 25 then 1 else 0
abbrev ae : Type := Nat × Nat × (Nat → Int32) × (Nat → Int32) × (Nat → Int32) × (Nat → Int32)
/-- what a step makes of height, output's count, stack, locals, memory, output -/
def aeff (o : Nat) (x : Int32) (h em : Nat) (stk loc mem out : Nat → Int32) : ae :=
  if 4 ≤ o ∧ o ≤ 15 then (h - 1, em, upd stk (h - 2) (reck o (stk (h - 2)) (stk (h - 1))), loc, mem, out) else match o with
  | 1 => (h + 1, em, upd stk h x, loc, mem, out)
  | 2 => (h + 1, em, upd stk h (loc x.toNatClampNeg), loc, mem, out)
  | 3 => (h - 1, em, stk, upd loc x.toNatClampNeg (stk (h - 1)), mem, out)
  | 16 => (h, em, upd stk (h - 1) (reck 16 (stk (h - 1)) 0), loc, mem, out)
  | 17 => (h, em, upd stk (h - 1) (reck 17 (stk (h - 1)) 0), loc, mem, out)
  | 18 => (h + 1, em, upd stk h (stk (h - 1)), loc, mem, out)
  | 19 => (h, em, upd (upd stk (h - 2) (stk (h - 1))) (h - 1) (stk (h - 2)), loc, mem, out)
  | 20 => (h - 1, em, stk, loc, mem, out)
  | 22 => (h - 1, em, stk, loc, mem, out)
  | 23 => (h - 1, em, stk, loc, mem, out)
  | 24 => (h - 1, em + 1, stk, loc, mem, upd out (em % 200) (stk (h - 1)))
  | 25 => (h, em, upd stk (h - 1) (mem (apl (stk (h - 1)))), loc, mem, out)
  | 26 => (h - 2, em, stk, loc, upd mem (apl (stk (h - 2))) (stk (h - 1)), out)
  | _ => (h, em, stk, loc, mem, out)
/-- where it goes on -/
def anext (o : Nat) (x : Int32) (pc h : Nat) (stk : Nat → Int32) : Nat := if o = 21 then x.toNatClampNeg else if o = 22 then (if stk (h - 1) = 0 then pc + 1 else x.toNatClampNeg) else if o = 23 then (if stk (h - 1) = 0 then x.toNatClampNeg else pc + 1) else if o = 0 then pc else pc + 1
def amk (pc : Nat) (n : Int64) (e : ae) : am := (pc, e.1, e.2.1, n, e.2.2.1, e.2.2.2.1, e.2.2.2.2.1, e.2.2.2.2.2)
def astep (cd : Nat → Int32) (a : am) : am := amk (anext (aop cd a.1) (aarg cd a.1) a.1 a.2.1 a.2.2.2.2.1) (a.2.2.2.1 + 1) (aeff (aop cd a.1) (aarg cd a.1) a.2.1 a.2.2.1 a.2.2.2.2.1 a.2.2.2.2.2.1 a.2.2.2.2.2.2.1 a.2.2.2.2.2.2.2)
/-- a step can be done -/
def aSafe (m : Nat) (cd : Nat → Int32) (pc h em : Nat) (stk : Nat → Int32) : Prop := pc < m ∧ m ≤ 200 ∧ aop cd pc ≤ 26 ∧ h ≤ 16 ∧ tk (aop cd pc) ≤ h ∧ h - tk (aop cd pc) + pt (aop cd pc) ≤ 16 ∧ em < 2000000000 ∧
  (aop cd pc = 2 ∨ aop cd pc = 3 → ∃ x, x < 16 ∧ aarg cd pc = Int32.ofNat x) ∧ (aop cd pc = 21 ∨ aop cd pc = 22 ∨ aop cd pc = 23 → ∃ x, x < m ∧ aarg cd pc = Int32.ofNat x) ∧ (aop cd pc = 7 ∨ aop cd pc = 8 → ¬ stk (h - 1) = 0)
theorem pm_state (w : zm) (a : am) (v : Int32) : yuI (putm w a) 1007 5 v = putm (yuI w 1007 5 v) a := by
  unfold yuI putm
  dsimp only [ySz, ySl, yK, yI, yL, yF, yA, yB, yQ]
  rw [y2_comm (p := 1009) (b := 1) (p' := 1007) (b' := 5) _ _ _ (by decide), y2_comm (p := 1007) (b := 7) (p' := 1007) (b' := 5) _ _ _ (by decide), y2_comm (p := 1007) (b := 6) (p' := 1007) (b' := 5) _ _ _ (by decide)]
theorem c8_result {d : Nat} {w : zm} {F : Int32 → zm → Prop} {o : Nat} (x y : Int32) (h1 : 4 ≤ o) (h2 : o ≤ 17) (hd : o = 7 ∨ o = 8 → ¬ y = 0) (k : F (reck o x y) w) : zGo d m_X8_result 0 [.int (Int32.ofNat o), .int x, .int y] [] (yz w) (zKi F) := by
  refine B_X8_result_0 _ _ _ ?_
  rw [n_toInt (by omega)]
  obtain h | h | h | h | h | h | h | h | h | h | h | h | h | h : o = 4 ∨ o = 5 ∨ o = 6 ∨ o = 7 ∨ o = 8 ∨ o = 9 ∨ o = 10 ∨ o = 11 ∨ o = 12 ∨ o = 13 ∨ o = 14 ∨ o = 15 ∨ o = 16 ∨ o = 17 := by omega
  all_goals
    subst h
    and_intros
    all_goals
      intro c
      first
        | (exfalso; revert c; decide)
        | exact k
        | exact ⟨fun e => absurd e (hd (by decide)), fun _ => ⟨hd (by decide), k⟩⟩
        | (refine ⟨fun e => ?_, fun e => ?_⟩ <;> (simp only [reck] at k; first | rwa [if_pos e] at k | rwa [if_neg e] at k))
section STEP
variable {d : Nat} {w : zm} {m pc h em : Nat} {n : Int64} {stk loc mem out cd : Nat → Int32}
theorem c1_store {F : zm → Prop} {j : Nat} (x : Int32) (hj : j < 16) (k : F (putm w (pc, h, em, n, stk, upd loc j x, mem, out))) : zGo d m_X1_store 0 [.ref 1007, .int (Int32.ofNat j), .int x] [] (yz (putm w (pc, h, em, n, stk, loc, mem, out))) (zKv F) := by
  refine B_X1_store_0 _ _ ?_
  simp (disch := omega) only [n_lit, n_lt, n_cl, pm_loc]
  exact ⟨fun c => absurd c (by omega), fun _ => ⟨fun _ => ⟨n_in hj (by decide), k⟩, fun c => absurd hj c⟩⟩
theorem c1_putOut {F : zm → Prop} (x : Int32) (he : em < 2000000000) (k : F (putm w (pc, h, em + 1, n, stk, loc, mem, upd out (em % 200) x))) : zGo d m_X1_putOut 0 [.ref 1007, .int x, zJ] [] (yz (putm w (pc, h, em, n, stk, loc, mem, out))) (zKv F) := by
  refine B_X1_putOut_0 _ ?_
  simp only [qm_em]
  simp (disch := omega) only [n_lit, n_mod, n_lt, n_cl, n_add, pm_em, pm_out]
  exact ⟨fun c => absurd c (by omega), fun _ => ⟨n_in (by omega) (by decide), k⟩⟩
theorem c1_wouldBreak {F : Int32 → zm → Prop} (C : yCd w m cd) (hp : pc < m) (h1 : h ≤ 16) (h2 : aop cd pc = 7 ∨ aop cd pc = 8 → 0 < h) (k : F (if (aop cd pc = 7 ∨ aop cd pc = 8) ∧ stk (h - 1) = 0 then 1 else 0) (putm w (pc, h, em, n, stk, loc, mem, out))) : zGo (d + 2) m_X1_wouldBreak 0 [.ref 1007, zJ] [] (yz (putm w (pc, h, em, n, stk, loc, mem, out))) (zKi F) := by
  refine B_X1_wouldBreak_0 ?_
  refine c0_op (w := putm w (pc, h, em, n, stk, loc, mem, out)) C hp ?_
  obtain ⟨e1, e2⟩ := aop_eq cd pc
  rw [e1]
  simp (disch := omega) only [n_lit, n_eq]
  have key : 0 < h → ∀ G : Prop, (stk (h - 1) = 0 → G) → True := fun _ _ _ => trivial
  refine ⟨fun c => ?_, fun c => ⟨fun c2 => ?_, fun c2 => ?_⟩⟩
  · have := h2 (Or.inl c)
    refine c3_top h1 ?_
    rw [if_neg (by omega)]
    refine ⟨fun e => ?_, fun e => ?_⟩
    · rwa [if_pos ⟨Or.inl c, e⟩] at k
    · rwa [if_neg (fun z => e z.2)] at k
  · have := h2 (Or.inr c2)
    refine c3_top h1 ?_
    rw [if_neg (by omega)]
    refine ⟨fun e => ?_, fun e => ?_⟩
    · rwa [if_pos ⟨Or.inr c2, e⟩] at k
    · rwa [if_neg (fun z => e z.2)] at k
  · rwa [if_neg (fun z => z.1.elim c c2)] at k
theorem c1_move {F : zm → Prop} {o : Nat} {x : Int32} (ho : o ≤ 26) (hn : ¬ (4 ≤ o ∧ o ≤ 15)) (h0 : ¬ o = 21) (h22 : ¬ o = 22) (h23 : ¬ o = 23) (h1 : h ≤ 16) (ht : tk o ≤ h) (hp : h - tk o + pt o ≤ 16) (he : em < 2000000000) (hx : o = 2 ∨ o = 3 → ∃ j, j < 16 ∧ x = Int32.ofNat j)
    (k : F (putm w (amk pc n (aeff o x h em stk loc mem out)))) : zGo (d + 2) m_X1_move 0 [.ref 1007, .int (Int32.ofNat o), .int x, zJ] [] (yz (putm w (pc, h, em, n, stk, loc, mem, out))) (zKv F) := by
  refine B_X1_move_0 _ _ ?_
  rw [n_toInt (by omega)]
  unfold aeff at k
  rw [if_neg hn] at k
  obtain e | e | e | e | e | e | e | e | e | e | e | e : o = 0 ∨ o = 1 ∨ o = 2 ∨ o = 3 ∨ o = 16 ∨ o = 17 ∨ o = 18 ∨ o = 19 ∨ o = 20 ∨ o = 24 ∨ o = 25 ∨ o = 26 := by
    clear hx k hp ht
    omega
  all_goals
    subst e
    simp only [tk, pt] at ht hp
    and_intros
    all_goals
      intro c
      first
        | (exfalso; revert c; decide)
        | skip
  · exact k
  · exact c3_push _ (by have h15 : h ≤ 15 := (by simpa using hp); omega) k
  · obtain ⟨j, hj, rfl⟩ := hx (Or.inl rfl)
    simp (disch := omega) only [n_lit, n_lt, n_cl, qm_loc] at k ⊢
    exact ⟨fun c => absurd c (by omega), fun _ => ⟨fun _ => ⟨n_in hj (by decide), c3_push _ (by have h15 : h ≤ 15 := (by simpa using hp); omega) k⟩, fun c => absurd hj c⟩⟩
  · obtain ⟨j, hj, rfl⟩ := hx (Or.inr rfl)
    have ht' : 1 ≤ h := by simpa using ht
    simp (disch := omega) only [n_cl] at k
    exact c3_pop (by omega) h1 (c1_store _ hj k)
  · have ht' : 1 ≤ h := by simpa using ht
    refine c3_pop (by omega) h1 (c8_result _ _ (by decide) (by decide) (by decide) (c3_push _ (by omega) ?_))
    rw [show h - 1 + 1 = h from by omega]
    exact k
  · have ht' : 1 ≤ h := by simpa using ht
    refine c3_pop (by omega) h1 (c8_result _ _ (by decide) (by decide) (by decide) (c3_push _ (by omega) ?_))
    rw [show h - 1 + 1 = h from by omega]
    exact k
  · have ht' : 1 ≤ h := by simpa using ht
    have hp' : h - 1 + 2 ≤ 16 := by simpa using hp
    refine c3_top h1 (c3_push _ (by omega) ?_)
    rw [if_neg (by omega)]
    exact k
  · have ht' : 2 ≤ h := by simpa using ht
    exact c3_swap (by omega) h1 k
  · have ht' : 1 ≤ h := by simpa using ht
    exact c3_pop (by omega) h1 k
  · have ht' : 1 ≤ h := by simpa using ht
    exact c3_pop (by omega) h1 (c1_putOut _ he k)
  · have ht' : 1 ≤ h := by simpa using ht
    refine c3_pop (by omega) h1 ⟨apl_in _, c3_push _ (by omega) ?_⟩
    rw [show h - 1 + 1 = h from by omega]
    exact k
  · have ht' : 2 ≤ h := by simpa using ht
    refine c3_pop (by omega) h1 (c3_pop (by omega) (by omega) ⟨apl_in _, ?_⟩)
    rw [pm_mem, show h - 1 - 1 = h - 2 from by omega]
    exact k
set_option maxHeartbeats 1000000 in
theorem c1_step {F : zm → Prop} (C : yCd w m cd) (S : aSafe m cd pc h em stk) (k : F (putm (if aop cd pc = 0 then yuI w 1007 5 3 else w) (astep cd (pc, h, em, n, stk, loc, mem, out)))) : zGo (d + 3) m_X1_step 0 [.ref 1007, zJ, zJ] [] (yz (putm w (pc, h, em, n, stk, loc, mem, out))) (zKv F) := by
  obtain ⟨s1, s2, s3, s4, s5, s6, s7, s8, s9, s10⟩ := S
  obtain ⟨e1, e2⟩ := aop_eq cd pc
  have C' : ∀ a, yCd (putm w a) m cd := fun _ => C
  unfold astep amk at k
  dsimp only at k
  refine B_X1_step_0 ?_
  refine c0_op (C' _) s1 ?_
  rw [e1]
  simp only [qm_n, pm_n]
  simp (disch := omega) only [n_lit, n_lt]
  generalize hog : aop cd pc = o at *
  generalize hxg : aarg cd pc = x at *
  by_cases ha : 4 ≤ o ∧ o ≤ 15
  · refine ⟨fun c => absurd c (by omega), fun _ => ⟨fun c => absurd c (by omega), fun _ => ?_⟩⟩
    have ht : 2 ≤ h := by
      have : tk o = 2 := by unfold tk; rw [if_neg (by omega), if_pos (Or.inl ha)]
      omega
    refine c3_pop (by omega) s4 (c3_pop (by omega) (by omega) (c8_result _ _ ha.1 (by omega) s10 (c3_push _ (by omega) ?_)))
    simp only [qm_at, n_lit, n_add, pm_at]
    rw [if_neg (by omega)] at k
    unfold aeff anext at k
    rw [if_pos ha, if_neg (by omega), if_neg (by omega), if_neg (by omega), if_neg (by omega)] at k
    rw [show h - 1 - 1 = h - 2 from by omega, show h - 2 + 1 = h - 1 from by omega]
    exact k
  · have go73 : zGo (d + 3) m_X1_step 73 [.ref 1007, .int (Int32.ofNat o), zJ] [] (yz (putm w (pc, h, em, n + 1, stk, loc, mem, out))) (zKv F) := by
      refine B_X1_step_73 _ ?_
      simp (disch := omega) only [n_lit, n_eq, qm_at]
      refine ⟨fun c => ?_, fun c1 => ⟨fun c => ?_, fun c2 => ⟨fun c => ?_, fun c3 => ⟨fun c => ?_, fun c4 => ?_⟩⟩⟩⟩
      · obtain ⟨x', hx', hx2⟩ := s9 (Or.inl c)
        refine c0_arg (C' _) s1 ?_
        rw [show cd pc >>> 6 = x from hxg, hx2, pm_at]
        rw [if_neg (by omega), c, hx2] at k
        have : anext 21 (Int32.ofNat x') pc h stk = x' := by
          show (Int32.ofNat x').toNatClampNeg = x'
          exact n_cl (by omega)
        rw [this] at k
        exact k
      · obtain ⟨x', hx', hx2⟩ := s9 (Or.inr (Or.inl c))
        rw [if_neg (by omega), c, hx2] at k
        have ht : 1 ≤ h := by rw [c] at s5; simpa [tk] using s5
        refine c3_pop (by omega) s4 ⟨fun z => ?_, fun z => ?_⟩
        · refine B_X1_step_124 _ _ ⟨fun q => absurd q (by rw [c]; decide), fun _ => ⟨fun q => absurd q (by decide), fun _ => ?_⟩⟩
          refine B_X1_step_143 _ _ ⟨fun _ => ?_, fun q => absurd rfl q⟩
          simp only [qm_at, n_lit, n_add, pm_at]
          have z : stk (h - 1) = 0 := z
          have : anext 22 (Int32.ofNat x') pc h stk = pc + 1 := by
            show (if stk (h - 1) = 0 then pc + 1 else (Int32.ofNat x').toNatClampNeg) = _
            rw [if_pos z]
          rw [this] at k
          exact k
        · refine B_X1_step_124 _ _ ⟨fun q => absurd q (by rw [c]; decide), fun _ => ⟨fun _ => ?_, fun q => absurd rfl q⟩⟩
          refine B_X1_step_143 _ _ ⟨fun q => absurd q (by decide), fun _ => ?_⟩
          refine c0_arg (C' _) s1 ?_
          rw [show cd pc >>> 6 = x from hxg, hx2, pm_at]
          have z : ¬ stk (h - 1) = 0 := z
          have : anext 22 (Int32.ofNat x') pc h stk = x' := by
            show (if stk (h - 1) = 0 then pc + 1 else (Int32.ofNat x').toNatClampNeg) = _
            rw [if_neg z, n_cl (by omega)]
          rw [this] at k
          exact k
      · obtain ⟨x', hx', hx2⟩ := s9 (Or.inr (Or.inr c))
        rw [if_neg (by omega), c, hx2] at k
        have ht : 1 ≤ h := by rw [c] at s5; simpa [tk] using s5
        refine c3_pop (by omega) s4 ⟨fun z => ?_, fun z => ?_⟩
        · refine B_X1_step_124 _ _ ⟨fun _ => ⟨fun _ => ?_, fun q => absurd rfl q⟩, fun q => absurd (by rw [c]; rfl) q⟩
          refine B_X1_step_143 _ _ ⟨fun q => absurd q (by decide), fun _ => ?_⟩
          refine c0_arg (C' _) s1 ?_
          rw [show cd pc >>> 6 = x from hxg, hx2, pm_at]
          have z : stk (h - 1) = 0 := z
          have : anext 23 (Int32.ofNat x') pc h stk = x' := by
            show (if stk (h - 1) = 0 then (Int32.ofNat x').toNatClampNeg else pc + 1) = _
            rw [if_pos z, n_cl (by omega)]
          rw [this] at k
          exact k
        · refine B_X1_step_124 _ _ ⟨fun _ => ⟨fun q => absurd q (by decide), fun _ => ?_⟩, fun q => absurd (by rw [c]; rfl) q⟩
          refine B_X1_step_143 _ _ ⟨fun _ => ?_, fun q => absurd rfl q⟩
          simp only [qm_at, n_lit, n_add, pm_at]
          have z : ¬ stk (h - 1) = 0 := z
          have : anext 23 (Int32.ofNat x') pc h stk = pc + 1 := by
            show (if stk (h - 1) = 0 then (Int32.ofNat x').toNatClampNeg else pc + 1) = _
            rw [if_neg z]
          rw [this] at k
          exact k
      · rw [if_pos c, c] at k
        rw [pm_state]
        exact k
      · refine c0_arg (C' _) s1 ?_
        rw [show cd pc >>> 6 = x from hxg]
        refine c1_move s3 ha c1 c2 c3 s4 s5 s6 s7 s8 ?_
        unfold amk
        simp only [qm_at, n_lit, n_add, pm_at]
        rw [if_neg c4] at k
        have : anext o x pc h stk = pc + 1 := by
          unfold anext
          rw [if_neg c1, if_neg c2, if_neg c3, if_neg c4]
        rw [this] at k
        exact k
    exact ⟨fun _ => go73, fun c => ⟨fun _ => go73, fun c2 => absurd ⟨by omega, by omega⟩ ha⟩⟩
end STEP
