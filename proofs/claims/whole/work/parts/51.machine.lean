/-! the machine on which plain steps work: address, height, how much was put out, steps, stack, locals, memory, output -/
theorem y2_over {α : Type} (f : Nat → Nat → α) (p b : Nat) (v v' : α) : y2 (y2 f p b v) p b v' = y2 f p b v' := by
  funext q j
  unfold y2
  cases Nat.beq j b <;> cases Nat.beq q p <;> rfl
theorem y2_comm {α : Type} (f : Nat → Nat → α) {p b p' b' : Nat} (v v' : α) (h : p ≠ p' ∨ b ≠ b') : y2 (y2 f p b v) p' b' v' = y2 (y2 f p' b' v') p b v := by
  funext q j
  by_cases h1 : q = p ∧ j = b
  · obtain ⟨rfl, rfl⟩ := h1
    rw [y2_ne _ _ h, y2_same, y2_same]
  · have h1' : q ≠ p ∨ j ≠ b := by
      by_cases h3 : q = p
      · exact Or.inr (fun h4 => h1 ⟨h3, h4⟩)
      · exact Or.inl h3
    by_cases h2 : q = p' ∧ j = b'
    · obtain ⟨rfl, rfl⟩ := h2
      rw [y2_same, y2_ne _ _ h1', y2_same]
    · have h2' : q ≠ p' ∨ j ≠ b' := by
        by_cases h3 : q = p'
        · exact Or.inr (fun h4 => h2 ⟨h3, h4⟩)
        · exact Or.inl h3
      rw [y2_ne _ _ h2', y2_ne _ _ h1', y2_ne _ _ h1', y2_ne _ _ h2']
theorem y1_over {α : Type} (f : Nat → α) (p : Nat) (v v' : α) : y1 (y1 f p v) p v' = y1 f p v' := by
  funext q
  unfold y1
  cases Nat.beq q p <;> rfl
theorem y1_comm {α : Type} (f : Nat → α) {p p' : Nat} (v v' : α) (h : p ≠ p') : y1 (y1 f p v) p' v' = y1 (y1 f p' v') p v := by
  funext q
  by_cases h1 : q = p
  · subst h1
    rw [y1_ne _ _ h, y1_same, y1_same]
  · by_cases h2 : q = p'
    · subst h2
      rw [y1_same, y1_ne _ _ h1, y1_same]
    · rw [y1_ne _ _ h2, y1_ne _ _ h1, y1_ne _ _ h1, y1_ne _ _ h2]
theorem y1_id {α : Type} (f : Nat → α) (p : Nat) : y1 f p (f p) = f := by
  funext q
  by_cases h : q = p
  · rw [h, y1_same]
  · rw [y1_ne _ _ h]
theorem y2_id {α : Type} (f : Nat → Nat → α) (p b : Nat) : y2 f p b (f p b) = f := by
  funext q j
  by_cases h : q = p ∧ j = b
  · rw [h.1, h.2, y2_same]
  · rw [y2_ne]
    by_cases h3 : q = p
    · exact Or.inr (fun h4 => h ⟨h3, h4⟩)
    · exact Or.inl h3
abbrev am : Type := Nat × Nat × Nat × Int64 × (Nat → Int32) × (Nat → Int32) × (Nat → Int32) × (Nat → Int32)
/-- the class's machine, laid over a memory -/
def putm (w : zm) (a : am) : zm := (ySz w, ySl w, yK w, y2 (y2 (y2 (yI w) 1007 6 (Int32.ofNat a.1)) 1007 7 (Int32.ofNat a.2.2.1)) 1009 1 (Int32.ofNat a.2.1), y2 (yL w) 1007 8 a.2.2.2.1, yF w, y1 (y1 (y1 (y1 (yA w) 1010 a.2.2.2.2.1) 1008 a.2.2.2.2.2.1) 1011 a.2.2.2.2.2.2.1) 1012 a.2.2.2.2.2.2.2, yB w, yQ w)
section PUTM
variable (w : zm) (pc h em : Nat) (n : Int64) (stk loc mem out : Nat → Int32)
theorem pm_at (k : Nat) : yuI (putm w (pc, h, em, n, stk, loc, mem, out)) 1007 6 (Int32.ofNat k) = putm w (k, h, em, n, stk, loc, mem, out) := by
  unfold yuI putm
  dsimp only [ySz, ySl, yK, yI, yL, yF, yA, yB, yQ]
  rw [y2_comm (p := 1009) (b := 1) (p' := 1007) (b' := 6) _ _ _ (by decide), y2_comm (p := 1007) (b := 7) (p' := 1007) (b' := 6) _ _ _ (by decide), y2_over]
theorem pm_em (k : Nat) : yuI (putm w (pc, h, em, n, stk, loc, mem, out)) 1007 7 (Int32.ofNat k) = putm w (pc, h, k, n, stk, loc, mem, out) := by
  unfold yuI putm
  dsimp only [ySz, ySl, yK, yI, yL, yF, yA, yB, yQ]
  rw [y2_comm (p := 1009) (b := 1) (p' := 1007) (b' := 7) _ _ _ (by decide), y2_over]
theorem pm_ht (k : Nat) : yuI (putm w (pc, h, em, n, stk, loc, mem, out)) 1009 1 (Int32.ofNat k) = putm w (pc, k, em, n, stk, loc, mem, out) := by
  unfold yuI putm
  dsimp only [ySz, ySl, yK, yI, yL, yF, yA, yB, yQ]
  rw [y2_over]
theorem pm_n (k : Int64) : yuL (putm w (pc, h, em, n, stk, loc, mem, out)) 1007 8 k = putm w (pc, h, em, k, stk, loc, mem, out) := by
  unfold yuL putm
  dsimp only [ySz, ySl, yK, yI, yL, yF, yA, yB, yQ]
  rw [y2_over]
theorem pm_stk (i : Nat) (x : Int32) : yuA (putm w (pc, h, em, n, stk, loc, mem, out)) 1010 i x = putm w (pc, h, em, n, upd stk i x, loc, mem, out) := by
  show yuR (putm w (pc, h, em, n, stk, loc, mem, out)) 1010 (upd stk i x) = _
  unfold yuR putm
  dsimp only [ySz, ySl, yK, yI, yL, yF, yA, yB, yQ]
  rw [y1_comm (p := 1012) (p' := 1010) _ _ _ (by decide), y1_comm (p := 1011) (p' := 1010) _ _ _ (by decide), y1_comm (p := 1008) (p' := 1010) _ _ _ (by decide), y1_over]
theorem pm_loc (i : Nat) (x : Int32) : yuA (putm w (pc, h, em, n, stk, loc, mem, out)) 1008 i x = putm w (pc, h, em, n, stk, upd loc i x, mem, out) := by
  show yuR (putm w (pc, h, em, n, stk, loc, mem, out)) 1008 (upd loc i x) = _
  unfold yuR putm
  dsimp only [ySz, ySl, yK, yI, yL, yF, yA, yB, yQ]
  rw [y1_comm (p := 1012) (p' := 1008) _ _ _ (by decide), y1_comm (p := 1011) (p' := 1008) _ _ _ (by decide), y1_over]
theorem pm_mem (i : Nat) (x : Int32) : yuA (putm w (pc, h, em, n, stk, loc, mem, out)) 1011 i x = putm w (pc, h, em, n, stk, loc, upd mem i x, out) := by
  show yuR (putm w (pc, h, em, n, stk, loc, mem, out)) 1011 (upd mem i x) = _
  unfold yuR putm
  dsimp only [ySz, ySl, yK, yI, yL, yF, yA, yB, yQ]
  rw [y1_comm (p := 1012) (p' := 1011) _ _ _ (by decide), y1_over]
theorem pm_out (i : Nat) (x : Int32) : yuA (putm w (pc, h, em, n, stk, loc, mem, out)) 1012 i x = putm w (pc, h, em, n, stk, loc, mem, upd out i x) := by
  show yuR (putm w (pc, h, em, n, stk, loc, mem, out)) 1012 (upd out i x) = _
  unfold yuR putm
  dsimp only [ySz, ySl, yK, yI, yL, yF, yA, yB, yQ]
  rw [y1_over]
theorem qm_at : yI (putm w (pc, h, em, n, stk, loc, mem, out)) 1007 6 = Int32.ofNat pc := rfl
theorem qm_em : yI (putm w (pc, h, em, n, stk, loc, mem, out)) 1007 7 = Int32.ofNat em := rfl
theorem qm_ht : yI (putm w (pc, h, em, n, stk, loc, mem, out)) 1009 1 = Int32.ofNat h := rfl
theorem qm_n : yL (putm w (pc, h, em, n, stk, loc, mem, out)) 1007 8 = n := rfl
theorem qm_stk : yA (putm w (pc, h, em, n, stk, loc, mem, out)) 1010 = stk := rfl
theorem qm_loc : yA (putm w (pc, h, em, n, stk, loc, mem, out)) 1008 = loc := rfl
theorem qm_mem : yA (putm w (pc, h, em, n, stk, loc, mem, out)) 1011 = mem := rfl
theorem qm_out : yA (putm w (pc, h, em, n, stk, loc, mem, out)) 1012 = out := rfl
theorem qm_code : yA (putm w (pc, h, em, n, stk, loc, mem, out)) 1004 = yA w 1004 := rfl
theorem qm_cnt : yI (putm w (pc, h, em, n, stk, loc, mem, out)) 1003 3 = yI w 1003 3 := rfl
end PUTM
/-! the words -/
section CODE
variable {d : Nat} {w : zm} {m : Nat} {cd : Nat → Int32}
/-- the words that stand there -/
def yCd (w : zm) (m : Nat) (cd : Nat → Int32) : Prop := m ≤ 200 ∧ yI w 1003 3 = Int32.ofNat m ∧ yA w 1004 = cd
theorem c0_holds {F : Int32 → zm → Prop} (C : yCd w m cd) {a : Nat} (ha : a < 2147483648) (k : F (if a < m then 1 else 0) w) : zGo d m_X0_holds 0 [.ref 1003, .int (Int32.ofNat a)] [] (yz w) (zKi F) := by
  obtain ⟨h1, h2, h3⟩ := C
  refine B_X0_holds_0 _ ?_
  simp (disch := omega) only [h2, n_lit, n_lt, n_neg]
  by_cases h : a < m
  · rw [if_pos h] at k
    exact ⟨fun c => absurd c (Nat.not_lt_zero _), fun _ => ⟨fun _ => ⟨fun _ => k, fun c => absurd (by omega) c⟩, fun c => absurd h c⟩⟩
  · rw [if_neg h] at k
    exact ⟨fun c => absurd c (Nat.not_lt_zero _), fun _ => ⟨fun c => absurd c h, fun _ => k⟩⟩
theorem c0_op {F : Int32 → zm → Prop} (C : yCd w m cd) {a : Nat} (ha : a < m) (k : F (cd a &&& 63) w) : zGo (d + 1) m_X0_op 0 [.ref 1003, .int (Int32.ofNat a)] [] (yz w) (zKi F) := by
  have hm := C.1
  refine B_X0_op_0 _ (c0_holds C (by omega) ?_)
  rw [if_pos ha]
  refine ⟨fun c => absurd c (by decide), fun _ => ⟨n_in (by omega) (by decide), ?_⟩⟩
  rw [C.2.2, n_cl (by omega)]
  exact k
theorem c0_arg {F : Int32 → zm → Prop} (C : yCd w m cd) {a : Nat} (ha : a < m) (k : F (cd a >>> 6) w) : zGo (d + 1) m_X0_argument 0 [.ref 1003, .int (Int32.ofNat a)] [] (yz w) (zKi F) := by
  have hm := C.1
  refine B_X0_argument_0 _ (c0_holds C (by omega) ?_)
  rw [if_pos ha]
  refine ⟨fun c => absurd c (by decide), fun _ => ⟨n_in (by omega) (by decide), ?_⟩⟩
  rw [C.2.2, n_cl (by omega)]
  exact k
end CODE
/-! the stack -/
section PILE
variable {d : Nat} {w : zm} {pc h em : Nat} {n : Int64} {stk loc mem out : Nat → Int32}
theorem c3_top {F : Int32 → zm → Prop} (h1 : h ≤ 16) (k : F (if h = 0 then 0 else stk (h - 1)) (putm w (pc, h, em, n, stk, loc, mem, out))) : zGo d m_X3_top 0 [.ref 1009] [] (yz (putm w (pc, h, em, n, stk, loc, mem, out))) (zKi F) := by
  refine B_X3_top_m_0 ?_
  simp only [qm_ht, qm_stk]
  by_cases h0 : h = 0
  · rw [if_pos h0] at k
    subst h0
    exact ⟨fun c => absurd c (by decide), fun _ => k⟩
  · rw [if_neg h0] at k
    simp (disch := omega) only [n_lit, n_lt, n_sub, n_cl]
    exact ⟨fun _ => ⟨fun c => absurd c (by omega), fun _ => ⟨n_in (by omega) (by decide), k⟩⟩, fun c => absurd (by omega) c⟩
theorem c3_pop {F : Int32 → zm → Prop} (h0 : 0 < h) (h1 : h ≤ 16) (k : F (stk (h - 1)) (putm w (pc, h - 1, em, n, stk, loc, mem, out))) : zGo (d + 1) m_X3_pop 0 [.ref 1009] [] (yz (putm w (pc, h, em, n, stk, loc, mem, out))) (zKi F) := by
  refine B_X3_pop_m_0 ?_
  simp (disch := omega) only [qm_ht, qm_stk, n_lit, n_lt, n_sub, n_cl, pm_ht]
  exact ⟨fun _ => ⟨fun c => absurd c (by omega), fun _ => ⟨n_in (by omega) (by decide), k⟩⟩, fun c => absurd h0 c⟩
theorem c3_push {F : zm → Prop} (x : Int32) (h1 : h < 16) (k : F (putm w (pc, h + 1, em, n, upd stk h x, loc, mem, out))) : zGo d m_X3_push 0 [.ref 1009, .int x] [] (yz (putm w (pc, h, em, n, stk, loc, mem, out))) (zKv F) := by
  refine B_X3_push_m_0 _ ?_
  simp (disch := omega) only [qm_ht, n_lit, n_lt, n_add, n_cl, pm_stk, pm_ht]
  exact ⟨fun c => absurd c (by omega), fun _ => ⟨fun _ => ⟨n_in (by omega) (by decide), k⟩, fun c => absurd h1 c⟩⟩
theorem c3_swap {F : zm → Prop} (h0 : 1 < h) (h1 : h ≤ 16) (k : F (putm w (pc, h, em, n, upd (upd stk (h - 2) (stk (h - 1))) (h - 1) (stk (h - 2)), loc, mem, out))) : zGo (d + 1) m_X3_swap 0 [.ref 1009, zJ] [] (yz (putm w (pc, h, em, n, stk, loc, mem, out))) (zKv F) := by
  refine B_X3_swap_m_0 ?_
  simp (disch := omega) only [qm_ht, qm_stk, n_lit, n_lt, n_sub, n_cl, pm_stk]
  refine ⟨fun c => absurd c (by omega), fun _ => ⟨fun c => absurd c (by omega), fun _ => ⟨n_in (by omega) (by decide), n_in (by omega) (by decide), n_in (by omega) (by decide), n_in (by omega) (by decide), ?_⟩⟩⟩
  rw [upd_comm stk (stk (h - 2)) (stk (h - 1)) (show h - 2 ≠ h - 1 by omega)]
  exact k
end PILE
