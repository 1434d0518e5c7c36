/-! the model's own part of the memory -/
abbrev ms : Type := (Nat → Int32) × (Nat → Int64) × (Nat → Nat → Int32)
def sI (s : ms) : Nat → Int32 := s.1
def sL (s : ms) : Nat → Int64 := s.2.1
def sA (s : ms) : Nat → Nat → Int32 := s.2.2
def tI (s : ms) (b : Nat) (v : Int32) : ms := (y1 s.1 b v, s.2.1, s.2.2)
def tL (s : ms) (b : Nat) (v : Int64) : ms := (s.1, y1 s.2.1 b v, s.2.2)
def tA (s : ms) (p : Nat) (f : Nat → Int32) : ms := (s.1, s.2.1, y1 s.2.2 p f)
def yrM (q : Nat) : Bool := Nat.ble 1032 q && Nat.blt q 1076
def put (c : zm) (s : ms) : zm := (ySz c, ySl c, yK c, (fun q j => bif Nat.beq q 1031 then sI s j else yI c q j), (fun q j => bif Nat.beq q 1031 then sL s j else yL c q j), yF c, (fun q => bif yrM q then sA s q else yA c q), yB c, yQ c)
theorem p_I (c : zm) (s : ms) (b : Nat) (v : Int32) : yuI (put c s) 1031 b v = put c (tI s b v) := by
  unfold yuI put
  refine congrArg (fun f => (ySz c, ySl c, yK c, f, _)) ?_
  funext q j
  simp only [y2, tI, sI, y1, yI]
  cases Nat.beq j b <;> cases Nat.beq q 1031 <;> rfl
theorem p_L (c : zm) (s : ms) (b : Nat) (v : Int64) : yuL (put c s) 1031 b v = put c (tL s b v) := by
  unfold yuL put
  refine congrArg (fun f : Nat → Nat → Int64 => ((ySz c, ySl c, yK c, (fun q j => bif Nat.beq q 1031 then sI s j else yI c q j), f, yF c, (fun q => bif yrM q then sA s q else yA c q), yB c, yQ c) : zm)) ?_
  funext q j
  simp only [y2, tL, sL, y1, yL]
  cases Nat.beq j b <;> cases Nat.beq q 1031 <;> rfl
theorem p_R (c : zm) (s : ms) (p : Nat) (f : Nat → Int32) (hp : yrM p = true) : yuR (put c s) p f = put c (tA s p f) := by
  unfold yuR put
  refine congrArg (fun f : Nat → Nat → Int32 => ((ySz c, ySl c, yK c, (fun q j => bif Nat.beq q 1031 then sI s j else yI c q j), (fun q j => bif Nat.beq q 1031 then sL s j else yL c q j), yF c, f, yB c, yQ c) : zm)) ?_
  funext q
  simp only [y1, tA, sA, yA]
  by_cases h : q = p
  · rw [h, Nat.beq_refl p, hp]
    rfl
  · rw [ybeq h]
    rfl
theorem p_A (c : zm) (s : ms) (p i : Nat) (v : Int32) (hp : yrM p = true) : yuA (put c s) p i v = put c (tA s p (upd (sA s p) i v)) := by
  have : yA (put c s) p = sA s p := by
    show (bif yrM p then sA s p else yA c p) = _
    rw [hp]
    rfl
  unfold yuA
  rw [this, p_R _ _ _ _ hp]
/-- the model's machine, laid over its part -/
def pmM (s : ms) (a : am) : ms := (y1 (y1 (y1 s.1 6 (Int32.ofNat a.1)) 9 (Int32.ofNat a.2.1)) 12 (Int32.ofNat a.2.2.1), y1 s.2.1 13 a.2.2.2.1, y1 (y1 (y1 (y1 s.2.2 1034 a.2.2.2.2.1) 1033 a.2.2.2.2.2.1) 1035 a.2.2.2.2.2.2.1) 1036 a.2.2.2.2.2.2.2)
def putM (c : zm) (s : ms) (a : am) : zm := put c (pmM s a)
section PUTS
variable (c : zm) (s : ms) (pc h em : Nat) (n : Int64) (stk loc mem out : Nat → Int32)
theorem pM_at (k : Nat) : yuI (putM c s (pc, h, em, n, stk, loc, mem, out)) 1031 6 (Int32.ofNat k) = putM c s (k, h, em, n, stk, loc, mem, out) := by
  unfold putM
  rw [p_I]
  unfold tI pmM
  dsimp only
  rw [y1_comm (p := 12) (p' := 6) _ _ _ (by decide), y1_comm (p := 9) (p' := 6) _ _ _ (by decide), y1_over]
theorem pM_ht (k : Nat) : yuI (putM c s (pc, h, em, n, stk, loc, mem, out)) 1031 9 (Int32.ofNat k) = putM c s (pc, k, em, n, stk, loc, mem, out) := by
  unfold putM
  rw [p_I]
  unfold tI pmM
  dsimp only
  rw [y1_comm (p := 12) (p' := 9) _ _ _ (by decide), y1_over]
theorem pM_em (k : Nat) : yuI (putM c s (pc, h, em, n, stk, loc, mem, out)) 1031 12 (Int32.ofNat k) = putM c s (pc, h, k, n, stk, loc, mem, out) := by
  unfold putM
  rw [p_I]
  unfold tI pmM
  dsimp only
  rw [y1_over]
theorem pM_n (k : Int64) : yuL (putM c s (pc, h, em, n, stk, loc, mem, out)) 1031 13 k = putM c s (pc, h, em, k, stk, loc, mem, out) := by
  unfold putM
  rw [p_L]
  unfold tL pmM
  dsimp only
  rw [y1_over]
theorem pM_stk (i : Nat) (x : Int32) : yuA (putM c s (pc, h, em, n, stk, loc, mem, out)) 1034 i x = putM c s (pc, h, em, n, upd stk i x, loc, mem, out) := by
  unfold putM
  rw [p_A _ _ _ _ _ rfl]
  show put c (tA (pmM s (pc, h, em, n, stk, loc, mem, out)) 1034 (upd stk i x)) = _
  unfold tA pmM
  dsimp only
  rw [y1_comm (p := 1036) (p' := 1034) _ _ _ (by decide), y1_comm (p := 1035) (p' := 1034) _ _ _ (by decide), y1_comm (p := 1033) (p' := 1034) _ _ _ (by decide), y1_over]
theorem pM_loc (i : Nat) (x : Int32) : yuA (putM c s (pc, h, em, n, stk, loc, mem, out)) 1033 i x = putM c s (pc, h, em, n, stk, upd loc i x, mem, out) := by
  unfold putM
  rw [p_A _ _ _ _ _ rfl]
  show put c (tA (pmM s (pc, h, em, n, stk, loc, mem, out)) 1033 (upd loc i x)) = _
  unfold tA pmM
  dsimp only
  rw [y1_comm (p := 1036) (p' := 1033) _ _ _ (by decide), y1_comm (p := 1035) (p' := 1033) _ _ _ (by decide), y1_over]
theorem pM_mem (i : Nat) (x : Int32) : yuA (putM c s (pc, h, em, n, stk, loc, mem, out)) 1035 i x = putM c s (pc, h, em, n, stk, loc, upd mem i x, out) := by
  unfold putM
  rw [p_A _ _ _ _ _ rfl]
  show put c (tA (pmM s (pc, h, em, n, stk, loc, mem, out)) 1035 (upd mem i x)) = _
  unfold tA pmM
  dsimp only
  rw [y1_comm (p := 1036) (p' := 1035) _ _ _ (by decide), y1_over]
theorem pM_out (i : Nat) (x : Int32) : yuA (putM c s (pc, h, em, n, stk, loc, mem, out)) 1036 i x = putM c s (pc, h, em, n, stk, loc, mem, upd out i x) := by
  unfold putM
  rw [p_A _ _ _ _ _ rfl]
  show put c (tA (pmM s (pc, h, em, n, stk, loc, mem, out)) 1036 (upd out i x)) = _
  unfold tA pmM
  dsimp only
  rw [y1_over]
theorem qM_at : yI (putM c s (pc, h, em, n, stk, loc, mem, out)) 1031 6 = Int32.ofNat pc := rfl
theorem qM_ht : yI (putM c s (pc, h, em, n, stk, loc, mem, out)) 1031 9 = Int32.ofNat h := rfl
theorem qM_em : yI (putM c s (pc, h, em, n, stk, loc, mem, out)) 1031 12 = Int32.ofNat em := rfl
theorem qM_n : yL (putM c s (pc, h, em, n, stk, loc, mem, out)) 1031 13 = n := rfl
theorem qM_stk : yA (putM c s (pc, h, em, n, stk, loc, mem, out)) 1034 = stk := rfl
theorem qM_loc : yA (putM c s (pc, h, em, n, stk, loc, mem, out)) 1033 = loc := rfl
theorem qM_mem : yA (putM c s (pc, h, em, n, stk, loc, mem, out)) 1035 = mem := rfl
theorem qM_out : yA (putM c s (pc, h, em, n, stk, loc, mem, out)) 1036 = out := rfl
theorem qM_cd : yA (putM c s (pc, h, em, n, stk, loc, mem, out)) 1032 = sA s 1032 := rfl
end PUTS
theorem c9_reckon {d : Nat} {w : zm} {F : Int32 → zm → Prop} {o : Nat} (x y : Int32) (h1 : 4 ≤ o) (h2 : o ≤ 17) (hd : o = 7 ∨ o = 8 → ¬ y = 0) (k : F (reck o x y) w) : zGo d m_X9_reckon 0 [.int (Int32.ofNat o), .int x, .int y] [] (yz w) (zKi F) := by
  refine B_X9_reckon_0 _ _ _ ?_
  rw [n_toInt (by omega)]
  obtain h | h | h | h | h | h | h | h | h | h | h | h | h | h : o = 4 ∨ o = 5 ∨ o = 6 ∨ o = 7 ∨ o = 8 ∨ o = 9 ∨ o = 10 ∨ o = 11 ∨ o = 12 ∨ o = 13 ∨ o = 14 ∨ o = 15 ∨ o = 16 ∨ o = 17 := by omega
  all_goals
    subst h
    and_intros
    all_goals
      intro c
      first
        | (exfalso; revert c; decide)
        | exact k
        | exact ⟨hd (by decide), k⟩
        | (refine ⟨fun e => ?_, fun e => ?_⟩ <;> (simp only [reck] at k; first | rwa [if_pos e] at k | rwa [if_neg e] at k))
section MODEL
variable {d : Nat} {c : zm} {s : ms} {m pc h em : Nat} {n : Int64} {stk loc mem out cd : Nat → Int32}
theorem c9_op {w : zm} {F : Int32 → zm → Prop} (hc : yA w 1032 = cd) {a : Nat} (ha : a < 200) (k : F (Int32.ofNat (aop cd a)) w) : zGo d m_X9_op 0 [.ref 1031, .int (Int32.ofNat a)] [] (yz w) (zKi F) := by
  refine B_X9_op_0 _ ⟨n_in ha (by decide), ?_⟩
  rw [hc, n_cl (by omega)]
  rw [← (aop_eq cd a).1] at k
  exact k
theorem c9_arg {w : zm} {F : Int32 → zm → Prop} (hc : yA w 1032 = cd) {a : Nat} (ha : a < 200) (k : F (aarg cd a) w) : zGo d m_X9_argument 0 [.ref 1031, .int (Int32.ofNat a)] [] (yz w) (zKi F) := by
  refine B_X9_argument_0 _ ⟨n_in ha (by decide), ?_⟩
  rw [hc, n_cl (by omega)]
  exact k
theorem c9_breaks {F : Int32 → zm → Prop} (hc : sA s 1032 = cd) (hp : pc < 200) (h1 : h ≤ 16) (h2 : aop cd pc = 7 ∨ aop cd pc = 8 → 0 < h) (k : F (if (aop cd pc = 7 ∨ aop cd pc = 8) ∧ stk (h - 1) = 0 then 1 else 0) (putM c s (pc, h, em, n, stk, loc, mem, out))) : zGo (d + 1) m_X9_breaks 0 [.ref 1031] [] (yz (putM c s (pc, h, em, n, stk, loc, mem, out))) (zKi F) := by
  have hle := (aop_eq cd pc).2
  have hc' : ∀ a, yA (putM c s a) 1032 = cd := fun _ => hc
  have go26 : (aop cd pc = 7 ∨ aop cd pc = 8) → zGo (d + 1) m_X9_breaks 26 [.ref 1031] [] (yz (putM c s (pc, h, em, n, stk, loc, mem, out))) (zKi F) := by
    intro ho
    have := h2 ho
    refine B_X9_breaks_26 ?_
    simp (disch := omega) only [qM_ht, qM_stk, n_lit, n_sub, n_cl]
    refine ⟨n_in (by omega) (by decide), fun e => ?_, fun e => ?_⟩
    · have e : stk (h - 1) = 0 := e
      rwa [if_pos ⟨ho, e⟩] at k
    · have e : ¬ stk (h - 1) = 0 := e
      rwa [if_neg (fun z => e z.2)] at k
  refine B_X9_breaks_0 (c9_op (hc' _) hp ?_)
  simp (disch := omega) only [n_lit, n_eq]
  refine ⟨fun e => go26 (Or.inl e), fun e => c9_op (hc' _) hp ?_⟩
  simp (disch := omega) only [n_eq]
  refine ⟨fun e2 => go26 (Or.inr e2), fun e2 => ?_⟩
  rwa [if_neg (fun z => z.1.elim e e2)] at k
/-- which way a branch goes: 1 where there is no 0, 0 where there is, -1 for what is no branch -/
def achoice (o : Nat) (h : Nat) (stk : Nat → Int32) : Int32 := if o = 22 ∨ o = 23 then (if stk (h - 1) = 0 then 0 else 1) else -1
theorem c9_choice {F : Int32 → zm → Prop} (hc : sA s 1032 = cd) (hp : pc < 200) (h1 : h ≤ 16) (h2 : aop cd pc = 22 ∨ aop cd pc = 23 → 0 < h) (k : F (achoice (aop cd pc) h stk) (putM c s (pc, h, em, n, stk, loc, mem, out))) : zGo (d + 1) m_X9_choice 0 [.ref 1031, zJ] [] (yz (putM c s (pc, h, em, n, stk, loc, mem, out))) (zKi F) := by
  have hle := (aop_eq cd pc).2
  have hc' : ∀ a, yA (putM c s a) 1032 = cd := fun _ => hc
  have go25 : (aop cd pc = 22 ∨ aop cd pc = 23) → zGo (d + 1) m_X9_choice 25 [.ref 1031, .int (Int32.ofNat (aop cd pc))] [] (yz (putM c s (pc, h, em, n, stk, loc, mem, out))) (zKi F) := by
    intro ho
    have := h2 ho
    refine B_X9_choice_25 _ ?_
    simp (disch := omega) only [qM_ht, qM_stk, n_lit, n_sub, n_cl]
    unfold achoice at k
    rw [if_pos ho] at k
    refine ⟨n_in (by omega) (by decide), fun e => ?_, fun e => ?_⟩
    · have e : stk (h - 1) = 0 := e
      rwa [if_pos e] at k
    · have e : ¬ stk (h - 1) = 0 := e
      rwa [if_neg e] at k
  refine B_X9_choice_0 (c9_op (hc' _) hp ?_)
  simp (disch := omega) only [n_lit, n_eq]
  refine ⟨fun e => go25 (Or.inl e), fun e => ⟨fun e2 => go25 (Or.inr e2), fun e2 => ?_⟩⟩
  unfold achoice at k
  rwa [if_neg (fun z => z.elim e e2)] at k
theorem c9_goesTo {F : Int32 → zm → Prop} (hc : sA s 1032 = cd) (hp : pc < 200) (h1 : h ≤ 16) (h2 : aop cd pc = 22 ∨ aop cd pc = 23 → 0 < h) (hx : aop cd pc = 21 ∨ aop cd pc = 22 ∨ aop cd pc = 23 → ∃ x, x < 200 ∧ aarg cd pc = Int32.ofNat x) (k : F (Int32.ofNat (anext (aop cd pc) (aarg cd pc) pc h stk)) (putM c s (pc, h, em, n, stk, loc, mem, out))) : zGo (d + 1) m_X9_goesTo 0 [.ref 1031, zJ, zJ] [] (yz (putM c s (pc, h, em, n, stk, loc, mem, out))) (zKi F) := by
  have hle := (aop_eq cd pc).2
  have hc' : ∀ a, yA (putM c s a) 1032 = cd := fun _ => hc
  have hcl : aop cd pc = 21 ∨ aop cd pc = 22 ∨ aop cd pc = 23 → aarg cd pc = Int32.ofNat (aarg cd pc).toNatClampNeg := by
    intro z
    obtain ⟨x, hx1, hx2⟩ := hx z
    rw [hx2, n_cl (by omega)]
  generalize hog : aop cd pc = o at *
  unfold anext at k
  refine B_X9_goesTo_0 (c9_op (hc' _) hp ?_)
  rw [hog]
  simp (disch := omega) only [qM_ht, qM_stk, n_lit, n_eq, n_sub, n_cl]
  have yes : (aop cd pc = 21 ∨ aop cd pc = 22 ∨ aop cd pc = 23) → F (Int32.ofNat (aarg cd pc).toNatClampNeg) (putM c s (pc, h, em, n, stk, loc, mem, out)) → zGo (d + 1) m_X9_goesTo 60 [.ref 1031, .int (Int32.ofNat o), zJ] [.int 1] (yz (putM c s (pc, h, em, n, stk, loc, mem, out))) (zKi F) := by
    intro ho k
    refine B_X9_goesTo_60 _ _ ⟨fun e => absurd e (by decide), fun _ => ?_⟩
    refine c9_arg (hc' _) hp ?_
    rw [hcl (hog ▸ ho)]
    exact k
  have no : F (Int32.ofNat (if o = 0 then pc else pc + 1)) (putM c s (pc, h, em, n, stk, loc, mem, out)) → zGo (d + 1) m_X9_goesTo 60 [.ref 1031, .int (Int32.ofNat o), zJ] [.int 0] (yz (putM c s (pc, h, em, n, stk, loc, mem, out))) (zKi F) := by
    intro k
    refine B_X9_goesTo_60 _ _ ⟨fun _ => ?_, fun e => absurd rfl e⟩
    simp (disch := omega) only [n_lit, n_eq, qM_at, n_add]
    refine ⟨fun e => ?_, fun e => ?_⟩
    · rwa [if_pos e] at k
    · rwa [if_neg e] at k
  have go35 : ¬ o = 21 → (o = 22 → stk (h - 1) = 0) → zGo (d + 1) m_X9_goesTo 35 [.ref 1031, .int (Int32.ofNat o), zJ] [] (yz (putM c s (pc, h, em, n, stk, loc, mem, out))) (zKi F) := by
    intro n1 n2
    refine B_X9_goesTo_35 _ ?_
    rw [if_neg n1] at k
    simp (disch := omega) only [qM_ht, qM_stk, n_lit, n_eq]
    refine ⟨fun e => ?_, fun e => ?_⟩
    · have h0 := h2 (Or.inr e)
      simp (disch := omega) only [n_sub, n_cl]
      rw [if_neg (by omega), if_pos e] at k
      refine ⟨n_in (by omega) (by decide), fun z => ?_, fun z => ?_⟩
      · have z : stk (h - 1) = 0 := z
        rw [if_pos z] at k
        exact yes (by rw [hog]; exact Or.inr (Or.inr e)) k
      · have z : ¬ stk (h - 1) = 0 := z
        rw [if_neg z] at k
        refine no ?_
        rw [if_neg (by omega)]
        exact k
    · refine no ?_
      by_cases e22 : o = 22
      · rw [if_pos e22, if_pos (n2 e22)] at k
        rw [if_neg (by omega)]
        exact k
      · rw [if_neg e22, if_neg e] at k
        by_cases e0 : o = 0
        · rw [if_pos e0] at k ⊢
          exact k
        · rw [if_neg e0] at k ⊢
          exact k
  refine ⟨fun e => ?_, fun e => ⟨fun e2 => ?_, fun e2 => go35 e (fun z => absurd z e2)⟩⟩
  · rw [if_pos e] at k
    exact yes (by rw [hog]; exact Or.inl e) k
  · have h0 := h2 (Or.inl e2)
    simp (disch := omega) only [n_sub, n_cl]
    refine ⟨n_in (by omega) (by decide), fun z => go35 e (fun _ => z), fun z => ?_⟩
    have z : ¬ stk (h - 1) = 0 := z
    rw [if_neg e, if_pos e2, if_neg z] at k
    exact yes (by rw [hog]; exact Or.inr (Or.inl e2)) k
end MODEL
