/-! the model looks for traces, begins, cuts off -/
section RECM
variable {d : Nat} {c : zm} {s : ms} {th : Nat} {pn : Int32} {X : xs} {sl : Nat → Option Nat}
theorem c9_traceOf {w : zm} {F : Int32 → zm → Prop} {a1 : Int32} (P : Nat → Bool) (hP : ∀ t, t < 16 → (yA w 1039 t = a1) = (P t = true)) (k : F (vov (vfind P 16 0)) w) : zGo d m_X9_traceOf 0 [.ref 1031, .int a1, zJ] [] (yz w) (zKi F) := by
  refine B_X9_traceOf_0 _ ?_
  have loop : ∀ (j t : Nat), t + j = 16 → F (vov (vfind P j t)) w → zGo d m_X9_traceOf 2 [.ref 1031, .int a1, .int (Int32.ofNat t)] [] (yz w) (zKi F) := by
    intro j
    induction j with
    | zero =>
      intro t ht k
      refine B_X9_traceOf_2 _ _ ?_
      rw [n_lit 16, n_lt (by omega) (by decide)]
      exact ⟨fun z => absurd z (by omega), fun _ => k⟩
    | succ j ih =>
      intro t ht k
      refine B_X9_traceOf_2 _ _ ?_
      rw [n_lit 16, n_lt (by omega) (by decide), n_cl (by omega), hP t (by omega), show (Int32.ofNat t + 1 : Int32) = Int32.ofNat (t + 1) from n_add _ 1]
      unfold vfind at k
      refine ⟨fun _ => ⟨n_in (by omega) (by decide), fun z => ?_, fun z => ?_⟩, fun z => absurd (by omega) z⟩
      · rw [if_pos z] at k
        exact k
      · rw [if_neg z] at k
        exact ih (t + 1) (by omega) k
  exact loop 16 0 (by omega) k
theorem c9_traceMany {w : zm} {F : Int32 → zm → Prop} (P : Nat → Bool) (hP : ∀ t, t < 16 → (yA w 1039 t < 0) = (P t = false)) (k : F (Int32.ofNat (cN P 16)) w) : zGo d m_X9_traceMany 0 [.ref 1031, zJ, zJ] [] (yz w) (zKi F) := by
  refine B_X9_traceMany_0 ?_
  have loop : ∀ (j t : Nat), t + j = 16 → zGo d m_X9_traceMany 4 [.ref 1031, .int (Int32.ofNat (cN P t)), .int (Int32.ofNat t)] [] (yz w) (zKi F) := by
    intro j
    induction j with
    | zero =>
      intro t ht
      have ht : t = 16 := by omega
      subst ht
      refine B_X9_traceMany_4 _ _ ?_
      rw [n_lit 16, n_lt (by omega) (by decide)]
      exact ⟨fun z => absurd z (by omega), fun _ => k⟩
    | succ j ih =>
      intro t ht
      have ih := ih (t + 1) (by omega)
      refine B_X9_traceMany_4 _ _ ?_
      rw [n_lit 16, n_lt (by omega) (by decide), n_cl (by omega), hP t (by omega), show (Int32.ofNat t + 1 : Int32) = Int32.ofNat (t + 1) from n_add _ 1, show (Int32.ofNat (cN P t) + 1 : Int32) = Int32.ofNat (cN P t + 1) from n_add _ 1, show (Int32.ofNat (cN P t) + 0 : Int32) = Int32.ofNat (cN P t + 0) from n_add _ 0]
      refine ⟨fun _ => ⟨n_in (by omega) (by decide), fun z => ?_, fun z => ?_⟩, fun z => absurd (by omega) z⟩
      · have : cN P (t + 1) = cN P t + 0 := by
          show cN P t + (if P t = true then 1 else 0) = _
          rw [if_neg (by rw [z]; decide)]
        rw [this] at ih
        exact ih
      · have : cN P (t + 1) = cN P t + 1 := by
          show cN P t + (if P t = true then 1 else 0) = _
          rw [if_pos (by cases e : P t with
            | false => exact absurd e z
            | true => rfl)]
        rw [this] at ih
        exact ih
  exact loop 16 0 (by omega)
def slB (sl : Nat → Option Nat) (a t : Nat) : Bool := decide (sl t = some a)
def slF (sl : Nat → Option Nat) (t : Nat) : Bool := (sl t).isNone
theorem vov_eq {o : Option Nat} {a : Nat} (h : ∀ b, o = some b → b < 200) (ha : a < 200) : (vov o = Int32.ofNat a) = (o = some a) := by
  cases o with
  | none => exact propext ⟨fun z => by have : Int32.ofNat a = -1 := z.symm; rw [n_m1 (by omega)] at this; exact this.elim, fun z => by cases z⟩
  | some b =>
    have := h b rfl
    show (Int32.ofNat b = Int32.ofNat a) = _
    rw [n_eq (by omega) (by omega)]
    exact propext ⟨fun z => by rw [z], fun z => by cases z; rfl⟩
theorem vov_m1 {o : Option Nat} (h : ∀ b, o = some b → b < 200) : (vov o = -1) = (o = none) := by
  cases o with
  | none => exact propext ⟨fun _ => rfl, fun _ => rfl⟩
  | some b =>
    have := h b rfl
    rw [vov_some (by omega)]
    exact propext ⟨fun z => z.elim, fun z => by cases z⟩
theorem vov_neg {o : Option Nat} (h : ∀ b, o = some b → b < 200) : (vov o < 0) = (o.isSome = false) := by
  cases o with
  | none => exact propext ⟨fun _ => rfl, fun _ => by decide⟩
  | some b =>
    have := h b rfl
    show (Int32.ofNat b < 0) = _
    rw [n_neg (by omega)]
    exact propext ⟨fun z => z.elim, fun z => by cases z⟩
theorem RMt.lt {A : Nat → Nat → Int32} (R : RMt A X sl) {t : Nat} (ht : t < 16) : ∀ b, sl t = some b → b < 200 := fun b h => (R.2.2.1 t b ht h).1
/-- the slot of the trace at a -/
theorem c9_slot {F : Int32 → zm → Prop} (R : RMt (sA s) X sl) {a : Nat} (ha : a < 200) (k1 : ∀ t T, t < 16 → sl t = some a → xT X a = some T → tHm (xC X) (sA s) t T → F (Int32.ofNat t) (put c s)) (k0 : xT X a = none → F (-1) (put c s)) : zGo d m_X9_traceOf 0 [.ref 1031, .int (Int32.ofNat a), zJ] [] (yz (put c s)) (zKi F) := by
  refine c9_traceOf (slB sl a) (fun t ht => ?_) ?_
  · show (sA s 1039 t = Int32.ofNat a) = _
    rw [R.1 t ht, vov_eq (R.lt ht) ha]
    unfold slB
    exact propext ⟨fun z => decide_eq_true z, fun z => of_decide_eq_true z⟩
  · cases hv : vfind (slB sl a) 16 0 with
    | none =>
      refine k0 ?_
      cases hT : xT X a with
      | none => rfl
      | some T =>
        obtain ⟨t, t1, t2⟩ := R.2.2.2.1 a T hT
        have := vfind_none hv t (Nat.zero_le _) (by omega)
        unfold slB at this
        rw [decide_eq_true t2] at this
        cases this
    | some t =>
      obtain ⟨s1, s2, s3, -⟩ := vfind_some hv
      have ht : t < 16 := by omega
      have hs : sl t = some a := of_decide_eq_true s3
      obtain ⟨z1, T, z2, z3⟩ := R.2.2.1 t a ht hs
      exact k1 t T ht hs z2 z3
theorem c9_many {F : Int32 → zm → Prop} (R : RMt (sA s) X sl) (k : F (Int32.ofNat (xMany X)) (put c s)) : zGo d m_X9_traceMany 0 [.ref 1031, zJ, zJ] [] (yz (put c s)) (zKi F) := by
  refine c9_traceMany (fun t => (sl t).isSome) (fun t ht => ?_) (by rw [R.2.2.2.2]; exact k)
  show (sA s 1039 t < 0) = _
  rw [R.1 t ht, vov_neg (R.lt ht)]
theorem cN_le (f : Nat → Bool) : ∀ n, cN f n ≤ n := by
  intro n
  induction n with
  | zero => exact Nat.le_refl _
  | succ n ih =>
    show cN f n + (if f n = true then 1 else 0) ≤ n + 1
    split <;> omega
theorem cN_all {f : Nat → Bool} : ∀ n, (∀ i, i < n → f i = true) → cN f n = n := by
  intro n
  induction n with
  | zero => intro _; rfl
  | succ n ih =>
    intro h
    show cN f n + (if f n = true then 1 else 0) = n + 1
    rw [ih (fun i hi => h i (by omega)), if_pos (h n (by omega))]
/-- a free slot -/
theorem c9_free {F : Int32 → zm → Prop} (R : RMt (sA s) X sl) (hm : xMany X < 16) (k : ∀ t, t < 16 → sl t = none → F (Int32.ofNat t) (put c s)) : zGo d m_X9_traceOf 0 [.ref 1031, .int (-1), zJ] [] (yz (put c s)) (zKi F) := by
  refine c9_traceOf (slF sl) (fun t ht => ?_) ?_
  · show (sA s 1039 t = -1) = _
    rw [R.1 t ht, vov_m1 (R.lt ht)]
    unfold slF
    exact propext ⟨fun z => by rw [z]; rfl, fun z => Option.isNone_iff_eq_none.mp z⟩
  · cases hv : vfind (slF sl) 16 0 with
    | none =>
      exfalso
      have : cN (fun t => (sl t).isSome) 16 = 16 := by
        refine cN_all 16 (fun t ht => ?_)
        have := vfind_none hv t (Nat.zero_le _) (by omega)
        unfold slF at this
        cases e : sl t with
        | none => rw [e] at this; cases this
        | some b => rfl
      have := R.2.2.2.2
      omega
    | some t =>
      obtain ⟨s1, s2, s3, -⟩ := vfind_some hv
      exact k t (by omega) (Option.isNone_iff_eq_none.mp s3)
theorem RM.many16 (R : RMt (sA s) X sl) : xMany X ≤ 16 := by
  rw [← R.2.2.2.2]
  exact cN_le _ 16
/-! begin -/
theorem c9_begin {F : zm → Prop} {hd : Nat} {gd : Option Nat} {a2 a3 : Int32} (Ra : RMa th pn s X) (Rt : RMt (sA s) X sl) (h1 : hd < 200) (h2 : match gd with
      | none => a2 = -1
      | some k => k < 48 ∧ ∃ t, t < 16 ∧ sl t = some hd ∧ a2 = Int32.ofNat t ∧ a3 = Int32.ofNat k)
    (k : ∀ s', RMa th pn s' (xBegin X hd gd) → RMr (sI s') (sA s') sl (xR (xBegin X hd gd)) → RMt (sA s') (xBegin X hd gd) sl → F (put c s')) : zGo d m_X9_begin 0 [.ref 1031, .int (Int32.ofNat hd), .int a2, .int a3] [] (yz (put c s)) (zKv F) := by
  refine B_X9_begin_0 _ _ _ ?_
  rw [show yI (put c s) 1031 9 = sI s 9 from rfl, show yL (put c s) 1031 17 = sL s 17 from rfl, p_I, p_I, p_I, p_I, p_I, p_L]
  refine k _ ?_ ?_ (Rt.keep (tmk.rf _) rfl rfl)
  · have R1 := (((((Ra.I (b := 42) (Int32.ofNat hd) (by decide)).I (b := 43) a2 (by decide)).I (b := 44) a3 (by decide)).I (b := 45) (sI s 9) (by decide)).I (b := 46) 0 (by decide)).n3 1
    exact R1.xx ⟨_, _, rfl⟩
  · refine ⟨h1, rfl, ?_, Ra.2.1, rfl, fun i hi => absurd hi (Nat.not_lt_zero i)⟩
    cases gd with
    | none => exact h2
    | some k =>
      obtain ⟨k1, t, t1, t2, t3, t4⟩ := h2
      exact ⟨k1, t, t1, t2, t3, t4⟩
end RECM
