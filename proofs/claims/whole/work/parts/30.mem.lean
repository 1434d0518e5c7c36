/-! THE MEMORY of the small machine, by fields and rows: size, slots, what lies where, int fields, long fields, references in fields, int rows, long rows, rows of references. What lies from 1000 on up to 1077 is what the law's beginning makes, and stays as it is. -/
abbrev zm : Type := Nat × Nat × (Nat → Option (Nat ⊕ (Nat × Nat))) × (Nat → Nat → Int32) × (Nat → Nat → Int64) × (Nat → Nat → Option Nat) × (Nat → Nat → Int32) × (Nat → Nat → Int64) × (Nat → Nat → Option Nat)
def yTop : Nat := 1077
def yfk (p : Nat) : Option (Nat ⊕ (Nat × Nat)) := bif Nat.blt p 1000 then (bif Nat.ble p 2 then some (.inr (9, 27)) else none) else (bif Nat.blt p 1038 then (bif Nat.blt p 1019 then (bif Nat.blt p 1009 then (bif Nat.blt p 1004 then (bif Nat.blt p 1002 then (bif Nat.blt p 1001 then (some (.inl 8)) else (some (.inr (0, 200)))) else (bif Nat.blt p 1003 then (some (.inr (0, 200))) else (some (.inl 0)))) else (bif Nat.blt p 1006 then (bif Nat.blt p 1005 then (some (.inr (0, 200))) else (some (.inr (0, 200)))) else (bif Nat.blt p 1007 then (some (.inr (0, 200))) else (bif Nat.blt p 1008 then (some (.inl 1)) else (some (.inr (0, 16))))))) else (bif Nat.blt p 1014 then (bif Nat.blt p 1011 then (bif Nat.blt p 1010 then (some (.inl 3)) else (some (.inr (0, 16)))) else (bif Nat.blt p 1012 then (some (.inr (0, 32))) else (bif Nat.blt p 1013 then (some (.inr (0, 200))) else (some (.inl 7))))) else (bif Nat.blt p 1016 then (bif Nat.blt p 1015 then (some (.inr (0, 16))) else (some (.inl 3))) else (bif Nat.blt p 1017 then (some (.inr (0, 16))) else (bif Nat.blt p 1018 then (some (.inr (0, 32))) else (some (.inr (0, 80)))))))) else (bif Nat.blt p 1028 then (bif Nat.blt p 1023 then (bif Nat.blt p 1021 then (bif Nat.blt p 1020 then (some (.inr (0, 80))) else (some (.inr (0, 80)))) else (bif Nat.blt p 1022 then (some (.inr (0, 80))) else (some (.inl 6)))) else (bif Nat.blt p 1025 then (bif Nat.blt p 1024 then (some (.inr (3, 200))) else (some (.inr (3, 16)))) else (bif Nat.blt p 1026 then (some (.inl 4)) else (bif Nat.blt p 1027 then (some (.inl 2)) else (some (.inr (0, 48))))))) else (bif Nat.blt p 1033 then (bif Nat.blt p 1030 then (bif Nat.blt p 1029 then (some (.inr (0, 48))) else (some (.inr (0, 48)))) else (bif Nat.blt p 1031 then (some (.inr (0, 48))) else (bif Nat.blt p 1032 then (some (.inl 9)) else (some (.inr (0, 200)))))) else (bif Nat.blt p 1035 then (bif Nat.blt p 1034 then (some (.inr (0, 16))) else (some (.inr (0, 20)))) else (bif Nat.blt p 1036 then (some (.inr (0, 32))) else (bif Nat.blt p 1037 then (some (.inr (0, 200))) else (some (.inr (0, 200))))))))) else (bif Nat.blt p 1057 then (bif Nat.blt p 1047 then (bif Nat.blt p 1042 then (bif Nat.blt p 1040 then (bif Nat.blt p 1039 then (some (.inr (0, 200))) else (some (.inr (0, 16)))) else (bif Nat.blt p 1041 then (some (.inr (0, 16))) else (some (.inr (0, 768))))) else (bif Nat.blt p 1044 then (bif Nat.blt p 1043 then (some (.inr (0, 768))) else (some (.inr (0, 16)))) else (bif Nat.blt p 1045 then (some (.inr (0, 16))) else (bif Nat.blt p 1046 then (some (.inr (0, 16))) else (some (.inr (0, 16))))))) else (bif Nat.blt p 1052 then (bif Nat.blt p 1049 then (bif Nat.blt p 1048 then (some (.inr (0, 16))) else (some (.inr (0, 16)))) else (bif Nat.blt p 1050 then (some (.inr (0, 768))) else (bif Nat.blt p 1051 then (some (.inr (0, 768))) else (some (.inr (0, 768)))))) else (bif Nat.blt p 1054 then (bif Nat.blt p 1053 then (some (.inr (0, 768))) else (some (.inr (0, 64)))) else (bif Nat.blt p 1055 then (some (.inr (0, 3072))) else (bif Nat.blt p 1056 then (some (.inr (0, 3072))) else (some (.inr (0, 64)))))))) else (bif Nat.blt p 1067 then (bif Nat.blt p 1062 then (bif Nat.blt p 1059 then (bif Nat.blt p 1058 then (some (.inr (0, 64))) else (some (.inr (0, 64)))) else (bif Nat.blt p 1060 then (some (.inr (0, 48))) else (bif Nat.blt p 1061 then (some (.inr (0, 48))) else (some (.inr (0, 200)))))) else (bif Nat.blt p 1064 then (bif Nat.blt p 1063 then (some (.inr (0, 200))) else (some (.inr (0, 48)))) else (bif Nat.blt p 1065 then (some (.inr (2, 400))) else (bif Nat.blt p 1066 then (some (.inr (0, 400))) else (some (.inr (2, 400))))))) else (bif Nat.blt p 1072 then (bif Nat.blt p 1069 then (bif Nat.blt p 1068 then (some (.inr (0, 16))) else (some (.inr (0, 20)))) else (bif Nat.blt p 1070 then (some (.inr (0, 48))) else (bif Nat.blt p 1071 then (some (.inr (0, 48))) else (some (.inr (0, 48)))))) else (bif Nat.blt p 1074 then (bif Nat.blt p 1073 then (some (.inr (0, 48))) else (some (.inr (0, 32)))) else (bif Nat.blt p 1075 then (some (.inr (0, 48))) else (bif Nat.blt p 1076 then (some (.inr (0, 48))) else (some (.inr (1, 1))))))))))
def yfr (p j : Nat) : Option Nat := (bif Nat.blt p 1015 then (bif Nat.blt p 1007 then (bif Nat.blt p 1003 then (bif Nat.beq p 1000 then (bif Nat.beq j 1 then some 1003 else (bif Nat.beq j 2 then some 1007 else (bif Nat.beq j 3 then some 1013 else (bif Nat.beq j 4 then some 1022 else (bif Nat.beq j 5 then some 1025 else (bif Nat.beq j 6 then some 1001 else (bif Nat.beq j 7 then some 1002 else none))))))) else none) else (bif Nat.beq p 1003 then (bif Nat.beq j 0 then some 1004 else (bif Nat.beq j 1 then some 1005 else (bif Nat.beq j 2 then some 1006 else none))) else none)) else (bif Nat.blt p 1009 then (bif Nat.beq p 1007 then (bif Nat.beq j 0 then some 1003 else (bif Nat.beq j 1 then some 1008 else (bif Nat.beq j 2 then some 1009 else (bif Nat.beq j 3 then some 1011 else (bif Nat.beq j 4 then some 1012 else none))))) else none) else (bif Nat.blt p 1013 then (bif Nat.beq p 1009 then (bif Nat.beq j 0 then some 1010 else none) else none) else (bif Nat.beq p 1013 then (bif Nat.beq j 0 then some 1003 else (bif Nat.beq j 1 then some 1014 else (bif Nat.beq j 2 then some 1015 else (bif Nat.beq j 3 then some 1017 else (bif Nat.beq j 4 then some 1018 else (bif Nat.beq j 5 then some 1019 else (bif Nat.beq j 6 then some 1020 else (bif Nat.beq j 7 then some 1021 else none)))))))) else none)))) else (bif Nat.blt p 1025 then (bif Nat.blt p 1022 then (bif Nat.beq p 1015 then (bif Nat.beq j 0 then some 1016 else none) else none) else (bif Nat.beq p 1022 then (bif Nat.beq j 0 then some 1023 else (bif Nat.beq j 1 then some 1024 else none)) else none)) else (bif Nat.blt p 1026 then (bif Nat.beq p 1025 then (bif Nat.beq j 0 then some 1026 else none) else none) else (bif Nat.blt p 1031 then (bif Nat.beq p 1026 then (bif Nat.beq j 0 then some 1027 else (bif Nat.beq j 1 then some 1028 else (bif Nat.beq j 2 then some 1029 else (bif Nat.beq j 3 then some 1030 else none)))) else none) else (bif Nat.beq p 1031 then (bif Nat.beq j 4 then some 1032 else (bif Nat.beq j 7 then some 1033 else (bif Nat.beq j 8 then some 1034 else (bif Nat.beq j 10 then some 1035 else (bif Nat.beq j 11 then some 1036 else (bif Nat.beq j 20 then some 1037 else (bif Nat.beq j 21 then some 1038 else (bif Nat.beq j 22 then some 1039 else (bif Nat.beq j 23 then some 1040 else (bif Nat.beq j 24 then some 1041 else (bif Nat.beq j 25 then some 1042 else (bif Nat.beq j 26 then some 1043 else (bif Nat.beq j 27 then some 1044 else (bif Nat.beq j 28 then some 1045 else (bif Nat.beq j 29 then some 1046 else (bif Nat.beq j 30 then some 1047 else (bif Nat.beq j 31 then some 1048 else (bif Nat.beq j 32 then some 1049 else (bif Nat.beq j 33 then some 1050 else (bif Nat.beq j 34 then some 1051 else (bif Nat.beq j 35 then some 1052 else (bif Nat.beq j 36 then some 1053 else (bif Nat.beq j 37 then some 1054 else (bif Nat.beq j 38 then some 1055 else (bif Nat.beq j 39 then some 1056 else (bif Nat.beq j 40 then some 1057 else (bif Nat.beq j 41 then some 1058 else (bif Nat.beq j 47 then some 1059 else (bif Nat.beq j 48 then some 1060 else (bif Nat.beq j 49 then some 1061 else (bif Nat.beq j 50 then some 1062 else (bif Nat.beq j 54 then some 1063 else (bif Nat.beq j 56 then some 1064 else (bif Nat.beq j 57 then some 1065 else (bif Nat.beq j 58 then some 1066 else (bif Nat.beq j 59 then some 1067 else (bif Nat.beq j 60 then some 1068 else (bif Nat.beq j 63 then some 1069 else (bif Nat.beq j 64 then some 1070 else (bif Nat.beq j 65 then some 1071 else (bif Nat.beq j 66 then some 1072 else (bif Nat.beq j 67 then some 1073 else (bif Nat.beq j 69 then some 1074 else (bif Nat.beq j 70 then some 1075 else none)))))))))))))))))))))))))))))))))))))))))))) else none)))))
def ySz (w : zm) : Nat := w.1
def ySl (w : zm) : Nat := w.2.1
def yK (w : zm) : Nat → Option (Nat ⊕ (Nat × Nat)) := w.2.2.1
def yI (w : zm) : Nat → Nat → Int32 := w.2.2.2.1
def yL (w : zm) : Nat → Nat → Int64 := w.2.2.2.2.1
def yF (w : zm) : Nat → Nat → Option Nat := w.2.2.2.2.2.1
def yA (w : zm) : Nat → Nat → Int32 := w.2.2.2.2.2.2.1
def yB (w : zm) : Nat → Nat → Int64 := w.2.2.2.2.2.2.2.1
def yQ (w : zm) : Nat → Nat → Option Nat := w.2.2.2.2.2.2.2.2
def yfix (p : Nat) : Bool := Nat.ble 1 p && Nat.blt p yTop
/-- what lies at p -/
def yk (w : zm) (p : Nat) : Option (Nat ⊕ (Nat × Nat)) := bif yfix p then yfk p else yK w p
/-- what a field holds that holds a reference -/
def yR (w : zm) (p j : Nat) : Option Nat := bif yfix p then yfr p j else yF w p j
def y2 {α : Type} (f : Nat → Nat → α) (p b : Nat) (v : α) : Nat → Nat → α := fun q j => bif Nat.beq j b then (bif Nat.beq q p then v else f q j) else f q j
def y1 {α : Type} (f : Nat → α) (p : Nat) (v : α) : Nat → α := fun q => bif Nat.beq q p then v else f q
def yuI (w : zm) (p b : Nat) (v : Int32) : zm := (ySz w, ySl w, yK w, y2 (yI w) p b v, yL w, yF w, yA w, yB w, yQ w)
def yuL (w : zm) (p b : Nat) (v : Int64) : zm := (ySz w, ySl w, yK w, yI w, y2 (yL w) p b v, yF w, yA w, yB w, yQ w)
def yuF (w : zm) (p b : Nat) (v : Option Nat) : zm := (ySz w, ySl w, yK w, yI w, yL w, y2 (yF w) p b v, yA w, yB w, yQ w)
/-- a whole row of ints anew -/
def yuR (w : zm) (p : Nat) (f : Nat → Int32) : zm := (ySz w, ySl w, yK w, yI w, yL w, yF w, y1 (yA w) p f, yB w, yQ w)
def yuA (w : zm) (p i : Nat) (v : Int32) : zm := yuR w p (upd (yA w p) i v)
def yuB (w : zm) (p i : Nat) (v : Int64) : zm := (ySz w, ySl w, yK w, yI w, yL w, yF w, yA w, y1 (yB w) p (vp_updL (yB w p) i v), yQ w)
def yuQ (w : zm) (p i : Nat) (v : Option Nat) : zm := (ySz w, ySl w, yK w, yI w, yL w, yF w, yA w, yB w, y1 (yQ w) p (va_up (yQ w p) i v))
/-- after a throw -/
def yuX (w : zm) : zm := (ySz w + 1, ySl w + 6, yK w, yI w, yL w, yF w, yA w, yB w, yQ w)
/-- a new object, a new row -/
def yuN (w : zm) (n : Nat) (k : Nat ⊕ (Nat × Nat)) : zm := (ySz w + 1, ySl w + n, y1 (yK w) (ySz w) (some k), y1 (yI w) (ySz w) (fun _ => 0), y1 (yL w) (ySz w) (fun _ => 0), y1 (yF w) (ySz w) (fun _ => none), y1 (yA w) (ySz w) (fun _ => 0), y1 (yB w) (ySz w) (fun _ => 0), y1 (yQ w) (ySz w) (fun _ => none))
def yfld (t : FieldType) (w : zm) (p j : Nat) : Value := match t with
  | .long => .long (yL w p j)
  | .object _ => va_rf (yR w p j)
  | .array _ => va_rf (yR w p j)
  | _ => .int (yI w p j)
def yfs (c : Nat) (w : zm) (p : Nat) : List Value := (List.range (zcl c).2.2).map (fun j => yfld (zty c j) w p j)
def yrow (t n : Nat) (w : zm) (p : Nat) : vp_A := bif Nat.beq t 1 then (n, .inr (.inl (yB w p))) else bif (Nat.beq t 3 || Nat.beq t 4) then (n, .inr (.inr (.inr (.inr (yQ w p))))) else (n, .inl (yA w p))
def yg (w : zm) : zG := fun p => match yk w p with
  | some (.inl c) => some (.inr (c, yfs c w p))
  | some (.inr (t, n)) => some (.inl (t, yrow t n w p))
  | none => none
def yz (w : zm) : zS := (ySz w, ySl w, yg w)
theorem y1_same {α : Type} (f : Nat → α) (p : Nat) (v : α) : y1 f p v p = v := by
  unfold y1
  rw [Nat.beq_refl p]
  rfl
theorem ybeq {q p : Nat} (h : q ≠ p) : Nat.beq q p = false := by
  cases hq : Nat.beq q p with
  | false => rfl
  | true => exact absurd (Nat.eq_of_beq_eq_true hq) h
theorem y1_ne {α : Type} (f : Nat → α) {q p : Nat} (v : α) (h : q ≠ p) : y1 f p v q = f q := by
  unfold y1
  rw [ybeq h]
  rfl
theorem y2_same {α : Type} (f : Nat → Nat → α) (p b : Nat) (v : α) : y2 f p b v p b = v := by
  unfold y2
  rw [Nat.beq_refl p, Nat.beq_refl b]
  rfl
theorem y2_ne {α : Type} (f : Nat → Nat → α) {p b q j : Nat} (v : α) (h : q ≠ p ∨ j ≠ b) : y2 f p b v q j = f q j := by
  unfold y2
  by_cases h1 : j = b
  · rw [h1, Nat.beq_refl b]
    have : q ≠ p := by
      rcases h with h | h
      · exact h
      · exact absurd h1 h
    rw [ybeq this]
    rfl
  · rw [ybeq h1]
    rfl
/-- what is seen of a memory at p -/
theorem yg_at {w w' : zm} {p : Nat} (h1 : yK w' p = yK w p) (h2 : ∀ j, yI w' p j = yI w p j) (h3 : ∀ j, yL w' p j = yL w p j) (h4 : ∀ j, yF w' p j = yF w p j) (h5 : yA w' p = yA w p) (h6 : yB w' p = yB w p) (h7 : yQ w' p = yQ w p) : yg w' p = yg w p := by
  have a1 : yk w' p = yk w p := by unfold yk; rw [h1]
  have a2 : ∀ j, yR w' p j = yR w p j := fun j => by unfold yR; rw [h4 j]
  have a3 : ∀ c, yfs c w' p = yfs c w p := by
    intro c
    unfold yfs
    apply List.map_congr_left
    intro j _
    unfold yfld
    rw [h2 j, h3 j, a2 j]
  have a4 : ∀ t n, yrow t n w' p = yrow t n w p := fun t n => by unfold yrow; rw [h5, h6, h7]
  unfold yg
  rw [a1]
  cases yk w p with
  | none => rfl
  | some k =>
    cases k with
    | inl c => dsimp only; rw [a3]
    | inr t => dsimp only; rw [a4]
theorem yput {w w' : zm} {p : Nat} {e : zE} (hs : ySz w' = ySz w) (hl : ySl w' = ySl w) (he : yg w' p = some e) (ho : ∀ q, q ≠ p → yg w' q = yg w q) : zput (yz w) p e = yz w' := by
  unfold zput yz
  rw [hs, hl]
  refine congrArg (fun g => (ySz w, ySl w, g)) ?_
  funext q
  unfold zset
  by_cases h : q = p
  · rw [h, Nat.beq_refl p]
    exact he.symm
  · rw [ybeq h]
    exact (ho q h).symm
theorem yset_map {n b : Nat} (f g : Nat → Value) (hg : ∀ j, j ≠ b → g j = f j) : ((List.range n).map f).set b (g b) = (List.range n).map g := by
  apply List.ext_getElem
  · simp
  · intro i h1 h2
    simp only [List.getElem_set, List.getElem_map, List.getElem_range]
    by_cases h : b = i
    · rw [if_pos h, h]
    · rw [if_neg h, hg i (fun e => h e.symm)]
theorem yg_obj {w : zm} {p c : Nat} (h : yk w p = some (.inl c)) : yg w p = some (.inr (c, yfs c w p)) := by
  unfold yg
  rw [h]
theorem yg_row {w : zm} {p t n : Nat} (h : yk w p = some (.inr (t, n))) : yg w p = some (.inl (t, yrow t n w p)) := by
  unfold yg
  rw [h]
theorem yfs_at {c : Nat} {w : zm} {p b : Nat} (hb : Nat.blt b (zcl c).2.2 = true) : (yfs c w p)[b]? = some (yfld (zty c b) w p b) := by
  have hb := zblt hb
  unfold yfs
  simp [hb]
theorem yfs_len {c : Nat} {w : zm} {p : Nat} : (yfs c w p).length = (zcl c).2.2 := by simp [yfs]
theorem yputI {w : zm} {p a b : Nat} {v : Int32} (hk : yk w p = some (.inl a)) (ht : ∀ w', yfld (zty a b) w' p b = .int (yI w' p b)) : zput (yz w) p (.inr (a, (yfs a w p).set b (.int v))) = yz (yuI w p b v) := by
  refine yput rfl rfl ?_ ?_
  · have hk' : yk (yuI w p b v) p = some (.inl a) := hk
    rw [yg_obj hk']
    refine congrArg (fun l => some (Sum.inr (a, l))) ?_
    have := yset_map (n := (zcl a).2.2) (b := b) (fun j => yfld (zty a j) w p j) (fun j => yfld (zty a j) (yuI w p b v) p j) (by
      intro j hj
      have e1 : yI (yuI w p b v) p j = yI w p j := y2_ne (yI w) v (Or.inr hj)
      have e2 : yL (yuI w p b v) p j = yL w p j := rfl
      have e3 : yR (yuI w p b v) p j = yR w p j := rfl
      show yfld (zty a j) (yuI w p b v) p j = yfld (zty a j) w p j
      unfold yfld
      rw [e1, e2, e3])
    unfold yfs
    rw [← this]
    have e4 : yfld (zty a b) (yuI w p b v) p b = .int v := by
      rw [ht]
      exact congrArg Value.int (y2_same (yI w) p b v)
    rw [e4]
  · intro q hq
    exact yg_at rfl (fun j => y2_ne (yI w) v (Or.inl hq)) (fun _ => rfl) (fun _ => rfl) rfl rfl rfl
theorem yputL {w : zm} {p a b : Nat} {v : Int64} (hk : yk w p = some (.inl a)) (ht : ∀ w', yfld (zty a b) w' p b = .long (yL w' p b)) : zput (yz w) p (.inr (a, (yfs a w p).set b (.long v))) = yz (yuL w p b v) := by
  refine yput rfl rfl ?_ ?_
  · have hk' : yk (yuL w p b v) p = some (.inl a) := hk
    rw [yg_obj hk']
    refine congrArg (fun l => some (Sum.inr (a, l))) ?_
    have := yset_map (n := (zcl a).2.2) (b := b) (fun j => yfld (zty a j) w p j) (fun j => yfld (zty a j) (yuL w p b v) p j) (by
      intro j hj
      have e1 : yL (yuL w p b v) p j = yL w p j := y2_ne (yL w) v (Or.inr hj)
      have e2 : yI (yuL w p b v) p j = yI w p j := rfl
      have e3 : yR (yuL w p b v) p j = yR w p j := rfl
      show yfld (zty a j) (yuL w p b v) p j = yfld (zty a j) w p j
      unfold yfld
      rw [e1, e2, e3])
    unfold yfs
    rw [← this]
    have e4 : yfld (zty a b) (yuL w p b v) p b = .long v := by
      rw [ht]
      exact congrArg Value.long (y2_same (yL w) p b v)
    rw [e4]
  · intro q hq
    exact yg_at rfl (fun _ => rfl) (fun j => y2_ne (yL w) v (Or.inl hq)) (fun _ => rfl) rfl rfl rfl
theorem yputF {w : zm} {p a b : Nat} {v : Option Nat} (hk : yk w p = some (.inl a)) (hp : yfix p = false) (ht : ∀ w', yfld (zty a b) w' p b = va_rf (yR w' p b)) : zput (yz w) p (.inr (a, (yfs a w p).set b (va_rf v))) = yz (yuF w p b v) := by
  have hR : ∀ (w' : zm) j, yR w' p j = yF w' p j := fun w' j => by unfold yR; rw [hp]; rfl
  refine yput rfl rfl ?_ ?_
  · have hk' : yk (yuF w p b v) p = some (.inl a) := hk
    rw [yg_obj hk']
    refine congrArg (fun l => some (Sum.inr (a, l))) ?_
    have := yset_map (n := (zcl a).2.2) (b := b) (fun j => yfld (zty a j) w p j) (fun j => yfld (zty a j) (yuF w p b v) p j) (by
      intro j hj
      have e1 : yR (yuF w p b v) p j = yR w p j := by rw [hR, hR]; exact y2_ne (yF w) v (Or.inr hj)
      have e2 : yI (yuF w p b v) p j = yI w p j := rfl
      have e3 : yL (yuF w p b v) p j = yL w p j := rfl
      show yfld (zty a j) (yuF w p b v) p j = yfld (zty a j) w p j
      unfold yfld
      rw [e1, e2, e3])
    unfold yfs
    rw [← this]
    have e4 : yfld (zty a b) (yuF w p b v) p b = va_rf v := by
      rw [ht, hR]
      exact congrArg va_rf (y2_same (yF w) p b v)
    rw [e4]
  · intro q hq
    exact yg_at rfl (fun _ => rfl) (fun _ => rfl) (fun j => y2_ne (yF w) v (Or.inl hq)) rfl rfl rfl
theorem yputR {w : zm} {p t n : Nat} {f : Nat → Int32} (hk : yk w p = some (.inr (t, n))) (ht : t = 0 ∨ t = 2) : zput (yz w) p (.inl (t, n, .inl f)) = yz (yuR w p f) := by
  refine yput rfl rfl ?_ ?_
  · have hk' : yk (yuR w p f) p = some (.inr (t, n)) := hk
    rw [yg_row hk']
    refine congrArg (fun l => some (Sum.inl (t, l))) ?_
    have e : yA (yuR w p f) p = f := y1_same (yA w) p f
    unfold yrow
    rw [e]
    rcases ht with rfl | rfl <;> rfl
  · intro q hq
    exact yg_at rfl (fun _ => rfl) (fun _ => rfl) (fun _ => rfl) (y1_ne (yA w) f hq) rfl rfl
theorem yputB {w : zm} {p n i : Nat} {v : Int64} (hk : yk w p = some (.inr (1, n))) : zput (yz w) p (.inl (1, n, .inr (.inl (vp_updL (yB w p) i v)))) = yz (yuB w p i v) := by
  refine yput rfl rfl ?_ ?_
  · have hk' : yk (yuB w p i v) p = some (.inr (1, n)) := hk
    rw [yg_row hk']
    refine congrArg (fun l => some (Sum.inl (1, l))) ?_
    have e : yB (yuB w p i v) p = vp_updL (yB w p) i v := y1_same (yB w) p _
    unfold yrow
    rw [e]
    rfl
  · intro q hq
    exact yg_at rfl (fun _ => rfl) (fun _ => rfl) (fun _ => rfl) rfl (y1_ne (yB w) _ hq) rfl
theorem yputQ {w : zm} {p t n i : Nat} {v : Option Nat} (hk : yk w p = some (.inr (t, n))) (ht : t = 3 ∨ t = 4) : zput (yz w) p (.inl (t, n, .inr (.inr (.inr (.inr (va_up (yQ w p) i v)))))) = yz (yuQ w p i v) := by
  refine yput rfl rfl ?_ ?_
  · have hk' : yk (yuQ w p i v) p = some (.inr (t, n)) := hk
    rw [yg_row hk']
    refine congrArg (fun l => some (Sum.inl (t, l))) ?_
    have e : yQ (yuQ w p i v) p = va_up (yQ w p) i v := y1_same (yQ w) p _
    unfold yrow
    rw [e]
    rcases ht with rfl | rfl <;> rfl
  · intro q hq
    exact yg_at rfl (fun _ => rfl) (fun _ => rfl) (fun _ => rfl) rfl rfl (y1_ne (yQ w) _ hq)
def zkindB : FieldType → Bool
  | .int => true
  | .long => true
  | .boolean => true
  | .object _ => true
  | .array _ => true
  | _ => false
theorem zkinds0 : (List.range 10).all (fun c => (List.range (zcl c).2.2).all (fun j => zkindB (zty c j))) = true := by decide +kernel
theorem zcl_big {c : Nat} (h : ¬ c < 10) : (zcl c).2.2 = 0 := by
  unfold zcl
  have h1 : vwCl.length = 10 := rfl
  rw [List.getD_eq_getElem?_getD, List.getElem?_eq_none (by omega)]
  rfl
theorem zty_kinds {c j : Nat} (h : j < (zcl c).2.2) : zty c j = .int ∨ zty c j = .long ∨ zty c j = .boolean ∨ (∃ x, zty c j = .object x) ∨ ∃ x, zty c j = .array x := by
  by_cases hc : c < 10
  · have h1 := List.all_eq_true.mp (List.all_eq_true.mp zkinds0 c (List.mem_range.mpr hc)) j (List.mem_range.mpr h)
    cases ht : zty c j <;> rw [ht] at h1 <;> first
      | cases h1; done
      | exact Or.inl rfl
      | exact Or.inr (Or.inl rfl)
      | exact Or.inr (Or.inr (Or.inl rfl))
      | exact Or.inr (Or.inr (Or.inr (Or.inl ⟨_, rfl⟩)))
      | exact Or.inr (Or.inr (Or.inr (Or.inr ⟨_, rfl⟩)))
  · rw [zcl_big hc] at h
    exact absurd h (Nat.not_lt_zero j)
theorem ynew {w : zm} {n : Nat} {k : Nat ⊕ (Nat × Nat)} {e : zE} (hp : yfix (ySz w) = false) (he : (match k with
    | .inl c => some (Sum.inr (c, zdef c))
    | .inr (t, m) => some (Sum.inl (t, bif Nat.beq t 1 then (m, .inr (.inl fun _ => 0)) else bif (Nat.beq t 3 || Nat.beq t 4) then (m, .inr (.inr (.inr (.inr fun _ => none)))) else (m, .inl fun _ => 0)))) = some e) : znew (yz w) n e = yz (yuN w n k) := by
  unfold znew
  refine congrArg (fun g => (ySz w + 1, ySl w + n, g)) ?_
  funext q
  unfold zset
  by_cases h : q = ySz w
  · rw [h]
    show (bif Nat.beq (ySz w) (ySz w) then some e else _) = yg (yuN w n k) (ySz w)
    rw [Nat.beq_refl (ySz w)]
    show some e = yg (yuN w n k) (ySz w)
    have hk : yk (yuN w n k) (ySz w) = some k := by
      unfold yk
      rw [hp]
      exact y1_same (yK w) (ySz w) (some k)
    rw [← he]
    cases k with
    | inl c =>
      rw [yg_obj hk]
      refine congrArg (fun l => some (Sum.inr (c, l))) ?_
      unfold zdef yfs
      apply List.map_congr_left
      intro j hj9
      have e1 : yI (yuN w n (.inl c)) (ySz w) j = 0 := congrFun (y1_same (yI w) (ySz w) _) j
      have e2 : yL (yuN w n (.inl c)) (ySz w) j = 0 := congrFun (y1_same (yL w) (ySz w) _) j
      have e3 : yR (yuN w n (.inl c)) (ySz w) j = none := by
        unfold yR
        rw [hp]
        exact congrFun (y1_same (yF w) (ySz w) _) j
      unfold yfld
      rw [e1, e2, e3]
      rcases zty_kinds (List.mem_range.mp hj9) with h | h | h | ⟨x, h⟩ | ⟨x, h⟩ <;> rw [h] <;> rfl
    | inr tm =>
      obtain ⟨t, m⟩ := tm
      rw [yg_row hk]
      refine congrArg (fun l => some (Sum.inl (t, l))) ?_
      have e1 : yA (yuN w n (.inr (t, m))) (ySz w) = fun _ => 0 := y1_same (yA w) (ySz w) _
      have e2 : yB (yuN w n (.inr (t, m))) (ySz w) = fun _ => 0 := y1_same (yB w) (ySz w) _
      have e3 : yQ (yuN w n (.inr (t, m))) (ySz w) = fun _ => none := y1_same (yQ w) (ySz w) _
      unfold yrow
      rw [e1, e2, e3]
  · show (bif Nat.beq q (ySz w) then some e else yg w q) = yg (yuN w n k) q
    rw [ybeq h]
    exact (yg_at (w := w) (w' := yuN w n k) (p := q) (y1_ne (yK w) _ h) (fun j => congrFun (y1_ne (yI w) _ h) j) (fun j => congrFun (y1_ne (yL w) _ h) j) (fun j => congrFun (y1_ne (yF w) _ h) j) (y1_ne (yA w) _ h) (y1_ne (yB w) _ h) (y1_ne (yQ w) _ h)).symm
