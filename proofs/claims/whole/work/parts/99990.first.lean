/-! the memory when the law's loop begins (printed by gen_99990.py) -/
def K0 (ns : Nat) (p : Nat) : Option (Nat ⊕ (Nat × Nat)) := bif Nat.beq p 0 then some (.inr (9, ns)) else none
def I0 (c : Int32) (p j : Nat) : Int32 := bif Nat.beq p 1000 && Nat.beq j 0 then thZ c else bif Nat.beq p 1003 && Nat.beq j 4 then -1 else bif Nat.beq p 1025 && Nat.beq j 1 then -1 else bif Nat.beq p 1025 && Nat.beq j 2 then -1 else bif Nat.beq p 1031 && Nat.beq j 0 then thZ c else bif Nat.beq p 1031 && Nat.beq j 5 then -1 else bif Nat.beq p 1031 && Nat.beq j 42 then -1 else bif Nat.beq p 1031 && Nat.beq j 43 then -1 else bif Nat.beq p 1031 && Nat.beq j 44 then -1 else 0
def A0 (f t1 t2 : Nat → Int32) (p : Nat) : Nat → Int32 := bif Nat.beq p 0 then f else bif Nat.beq p 1 then t1 else bif Nat.beq p 2 then t2 else bif Nat.beq p 1018 then (fun q => if q < 80 then (-1) else 0) else bif Nat.beq p 1039 then ng 16 else fun _ => 0
def w0 (ns : Nat) (f t1 t2 : Nat → Int32) (c : Int32) : zm := (1077, 16289, K0 ns, I0 c, (fun _ _ => 0), (fun _ _ => none), A0 f t1 t2, (fun _ _ => 0), (fun _ _ => none))
def G0 (ns : Nat) (f t1 t2 : Nat → Int32) : zG := fun p => bif Nat.beq p 0 then some (.inl (9, ns, .inl f)) else bif Nat.beq p 1 then some (.inl (9, 27, .inl t1)) else bif Nat.beq p 2 then some (.inl (9, 27, .inl t2)) else none
theorem zlk_out {G : zG} {p : Nat} (hp : p < 1000 ∨ 1077 ≤ p) : ∀ L : List (Nat × zE), L.all (fun q => Nat.ble 1000 q.1 && Nat.blt q.1 1077) = true → zlk G L p = G p := by
  intro L
  induction L with
  | nil => intro _; rfl
  | cons q L ih =>
    intro h
    rw [List.all_cons, Bool.and_eq_true, Bool.and_eq_true] at h
    have h1 := Nat.le_of_ble_eq_true h.1.1
    have h2 := zblt h.1.2
    show zset (zlk G L) q.1 q.2 p = _
    unfold zset
    rw [ybeq (show p ≠ q.1 by omega)]
    exact ih h.2
def upTo (P : Nat → Prop) : Nat → Prop
  | 0 => True
  | n + 1 => upTo P n ∧ P n
theorem upTo_at {P : Nat → Prop} : ∀ n, upTo P n → ∀ i, i < n → P i := by
  intro n
  induction n with
  | zero => intro _ i hi; exact absurd hi (Nat.not_lt_zero i)
  | succ n ih =>
    intro h i hi
    by_cases e : i = n
    · rw [e]
      exact h.2
    · exact ih h.1 i (by omega)
section FST
variable {ns : Nat} {f t1 t2 : Nat → Int32} {c : Int32}
set_option maxRecDepth 100000 in
theorem f_1000 : zlk (G0 ns f t1 t2) (vL114 c) 1000 = yg (w0 ns f t1 t2 c) 1000 := rfl
set_option maxRecDepth 100000 in
theorem f_1001 : zlk (G0 ns f t1 t2) (vL114 c) 1001 = yg (w0 ns f t1 t2 c) 1001 := rfl
set_option maxRecDepth 100000 in
theorem f_1002 : zlk (G0 ns f t1 t2) (vL114 c) 1002 = yg (w0 ns f t1 t2 c) 1002 := rfl
set_option maxRecDepth 100000 in
theorem f_1003 : zlk (G0 ns f t1 t2) (vL114 c) 1003 = yg (w0 ns f t1 t2 c) 1003 := rfl
set_option maxRecDepth 100000 in
theorem f_1004 : zlk (G0 ns f t1 t2) (vL114 c) 1004 = yg (w0 ns f t1 t2 c) 1004 := rfl
set_option maxRecDepth 100000 in
theorem f_1005 : zlk (G0 ns f t1 t2) (vL114 c) 1005 = yg (w0 ns f t1 t2 c) 1005 := rfl
set_option maxRecDepth 100000 in
theorem f_1006 : zlk (G0 ns f t1 t2) (vL114 c) 1006 = yg (w0 ns f t1 t2 c) 1006 := rfl
set_option maxRecDepth 100000 in
theorem f_1007 : zlk (G0 ns f t1 t2) (vL114 c) 1007 = yg (w0 ns f t1 t2 c) 1007 := rfl
set_option maxRecDepth 100000 in
theorem f_1008 : zlk (G0 ns f t1 t2) (vL114 c) 1008 = yg (w0 ns f t1 t2 c) 1008 := rfl
set_option maxRecDepth 100000 in
theorem f_1009 : zlk (G0 ns f t1 t2) (vL114 c) 1009 = yg (w0 ns f t1 t2 c) 1009 := rfl
set_option maxRecDepth 100000 in
theorem f_1010 : zlk (G0 ns f t1 t2) (vL114 c) 1010 = yg (w0 ns f t1 t2 c) 1010 := rfl
set_option maxRecDepth 100000 in
theorem f_1011 : zlk (G0 ns f t1 t2) (vL114 c) 1011 = yg (w0 ns f t1 t2 c) 1011 := rfl
set_option maxRecDepth 100000 in
theorem f_1012 : zlk (G0 ns f t1 t2) (vL114 c) 1012 = yg (w0 ns f t1 t2 c) 1012 := rfl
set_option maxRecDepth 100000 in
theorem f_1013 : zlk (G0 ns f t1 t2) (vL114 c) 1013 = yg (w0 ns f t1 t2 c) 1013 := rfl
set_option maxRecDepth 100000 in
theorem f_1014 : zlk (G0 ns f t1 t2) (vL114 c) 1014 = yg (w0 ns f t1 t2 c) 1014 := rfl
set_option maxRecDepth 100000 in
theorem f_1015 : zlk (G0 ns f t1 t2) (vL114 c) 1015 = yg (w0 ns f t1 t2 c) 1015 := rfl
set_option maxRecDepth 100000 in
theorem f_1016 : zlk (G0 ns f t1 t2) (vL114 c) 1016 = yg (w0 ns f t1 t2 c) 1016 := rfl
set_option maxRecDepth 100000 in
theorem f_1017 : zlk (G0 ns f t1 t2) (vL114 c) 1017 = yg (w0 ns f t1 t2 c) 1017 := rfl
set_option maxRecDepth 100000 in
theorem f_1018 : zlk (G0 ns f t1 t2) (vL114 c) 1018 = yg (w0 ns f t1 t2 c) 1018 := rfl
set_option maxRecDepth 100000 in
theorem f_1019 : zlk (G0 ns f t1 t2) (vL114 c) 1019 = yg (w0 ns f t1 t2 c) 1019 := rfl
set_option maxRecDepth 100000 in
theorem f_1020 : zlk (G0 ns f t1 t2) (vL114 c) 1020 = yg (w0 ns f t1 t2 c) 1020 := rfl
set_option maxRecDepth 100000 in
theorem f_1021 : zlk (G0 ns f t1 t2) (vL114 c) 1021 = yg (w0 ns f t1 t2 c) 1021 := rfl
set_option maxRecDepth 100000 in
theorem f_1022 : zlk (G0 ns f t1 t2) (vL114 c) 1022 = yg (w0 ns f t1 t2 c) 1022 := rfl
set_option maxRecDepth 100000 in
theorem f_1023 : zlk (G0 ns f t1 t2) (vL114 c) 1023 = yg (w0 ns f t1 t2 c) 1023 := rfl
set_option maxRecDepth 100000 in
theorem f_1024 : zlk (G0 ns f t1 t2) (vL114 c) 1024 = yg (w0 ns f t1 t2 c) 1024 := rfl
set_option maxRecDepth 100000 in
theorem f_1025 : zlk (G0 ns f t1 t2) (vL114 c) 1025 = yg (w0 ns f t1 t2 c) 1025 := rfl
set_option maxRecDepth 100000 in
theorem f_1026 : zlk (G0 ns f t1 t2) (vL114 c) 1026 = yg (w0 ns f t1 t2 c) 1026 := rfl
set_option maxRecDepth 100000 in
theorem f_1027 : zlk (G0 ns f t1 t2) (vL114 c) 1027 = yg (w0 ns f t1 t2 c) 1027 := rfl
set_option maxRecDepth 100000 in
theorem f_1028 : zlk (G0 ns f t1 t2) (vL114 c) 1028 = yg (w0 ns f t1 t2 c) 1028 := rfl
set_option maxRecDepth 100000 in
theorem f_1029 : zlk (G0 ns f t1 t2) (vL114 c) 1029 = yg (w0 ns f t1 t2 c) 1029 := rfl
set_option maxRecDepth 100000 in
theorem f_1030 : zlk (G0 ns f t1 t2) (vL114 c) 1030 = yg (w0 ns f t1 t2 c) 1030 := rfl
set_option maxRecDepth 100000 in
theorem f_1031 : zlk (G0 ns f t1 t2) (vL114 c) 1031 = yg (w0 ns f t1 t2 c) 1031 := rfl
set_option maxRecDepth 100000 in
theorem f_1032 : zlk (G0 ns f t1 t2) (vL114 c) 1032 = yg (w0 ns f t1 t2 c) 1032 := rfl
set_option maxRecDepth 100000 in
theorem f_1033 : zlk (G0 ns f t1 t2) (vL114 c) 1033 = yg (w0 ns f t1 t2 c) 1033 := rfl
set_option maxRecDepth 100000 in
theorem f_1034 : zlk (G0 ns f t1 t2) (vL114 c) 1034 = yg (w0 ns f t1 t2 c) 1034 := rfl
set_option maxRecDepth 100000 in
theorem f_1035 : zlk (G0 ns f t1 t2) (vL114 c) 1035 = yg (w0 ns f t1 t2 c) 1035 := rfl
set_option maxRecDepth 100000 in
theorem f_1036 : zlk (G0 ns f t1 t2) (vL114 c) 1036 = yg (w0 ns f t1 t2 c) 1036 := rfl
set_option maxRecDepth 100000 in
theorem f_1037 : zlk (G0 ns f t1 t2) (vL114 c) 1037 = yg (w0 ns f t1 t2 c) 1037 := rfl
set_option maxRecDepth 100000 in
theorem f_1038 : zlk (G0 ns f t1 t2) (vL114 c) 1038 = yg (w0 ns f t1 t2 c) 1038 := rfl
set_option maxRecDepth 100000 in
theorem f_1039 : zlk (G0 ns f t1 t2) (vL114 c) 1039 = yg (w0 ns f t1 t2 c) 1039 := rfl
set_option maxRecDepth 100000 in
theorem f_1040 : zlk (G0 ns f t1 t2) (vL114 c) 1040 = yg (w0 ns f t1 t2 c) 1040 := rfl
set_option maxRecDepth 100000 in
theorem f_1041 : zlk (G0 ns f t1 t2) (vL114 c) 1041 = yg (w0 ns f t1 t2 c) 1041 := rfl
set_option maxRecDepth 100000 in
theorem f_1042 : zlk (G0 ns f t1 t2) (vL114 c) 1042 = yg (w0 ns f t1 t2 c) 1042 := rfl
set_option maxRecDepth 100000 in
theorem f_1043 : zlk (G0 ns f t1 t2) (vL114 c) 1043 = yg (w0 ns f t1 t2 c) 1043 := rfl
set_option maxRecDepth 100000 in
theorem f_1044 : zlk (G0 ns f t1 t2) (vL114 c) 1044 = yg (w0 ns f t1 t2 c) 1044 := rfl
set_option maxRecDepth 100000 in
theorem f_1045 : zlk (G0 ns f t1 t2) (vL114 c) 1045 = yg (w0 ns f t1 t2 c) 1045 := rfl
set_option maxRecDepth 100000 in
theorem f_1046 : zlk (G0 ns f t1 t2) (vL114 c) 1046 = yg (w0 ns f t1 t2 c) 1046 := rfl
set_option maxRecDepth 100000 in
theorem f_1047 : zlk (G0 ns f t1 t2) (vL114 c) 1047 = yg (w0 ns f t1 t2 c) 1047 := rfl
set_option maxRecDepth 100000 in
theorem f_1048 : zlk (G0 ns f t1 t2) (vL114 c) 1048 = yg (w0 ns f t1 t2 c) 1048 := rfl
set_option maxRecDepth 100000 in
theorem f_1049 : zlk (G0 ns f t1 t2) (vL114 c) 1049 = yg (w0 ns f t1 t2 c) 1049 := rfl
set_option maxRecDepth 100000 in
theorem f_1050 : zlk (G0 ns f t1 t2) (vL114 c) 1050 = yg (w0 ns f t1 t2 c) 1050 := rfl
set_option maxRecDepth 100000 in
theorem f_1051 : zlk (G0 ns f t1 t2) (vL114 c) 1051 = yg (w0 ns f t1 t2 c) 1051 := rfl
set_option maxRecDepth 100000 in
theorem f_1052 : zlk (G0 ns f t1 t2) (vL114 c) 1052 = yg (w0 ns f t1 t2 c) 1052 := rfl
set_option maxRecDepth 100000 in
theorem f_1053 : zlk (G0 ns f t1 t2) (vL114 c) 1053 = yg (w0 ns f t1 t2 c) 1053 := rfl
set_option maxRecDepth 100000 in
theorem f_1054 : zlk (G0 ns f t1 t2) (vL114 c) 1054 = yg (w0 ns f t1 t2 c) 1054 := rfl
set_option maxRecDepth 100000 in
theorem f_1055 : zlk (G0 ns f t1 t2) (vL114 c) 1055 = yg (w0 ns f t1 t2 c) 1055 := rfl
set_option maxRecDepth 100000 in
theorem f_1056 : zlk (G0 ns f t1 t2) (vL114 c) 1056 = yg (w0 ns f t1 t2 c) 1056 := rfl
set_option maxRecDepth 100000 in
theorem f_1057 : zlk (G0 ns f t1 t2) (vL114 c) 1057 = yg (w0 ns f t1 t2 c) 1057 := rfl
set_option maxRecDepth 100000 in
theorem f_1058 : zlk (G0 ns f t1 t2) (vL114 c) 1058 = yg (w0 ns f t1 t2 c) 1058 := rfl
set_option maxRecDepth 100000 in
theorem f_1059 : zlk (G0 ns f t1 t2) (vL114 c) 1059 = yg (w0 ns f t1 t2 c) 1059 := rfl
set_option maxRecDepth 100000 in
theorem f_1060 : zlk (G0 ns f t1 t2) (vL114 c) 1060 = yg (w0 ns f t1 t2 c) 1060 := rfl
set_option maxRecDepth 100000 in
theorem f_1061 : zlk (G0 ns f t1 t2) (vL114 c) 1061 = yg (w0 ns f t1 t2 c) 1061 := rfl
set_option maxRecDepth 100000 in
theorem f_1062 : zlk (G0 ns f t1 t2) (vL114 c) 1062 = yg (w0 ns f t1 t2 c) 1062 := rfl
set_option maxRecDepth 100000 in
theorem f_1063 : zlk (G0 ns f t1 t2) (vL114 c) 1063 = yg (w0 ns f t1 t2 c) 1063 := rfl
set_option maxRecDepth 100000 in
theorem f_1064 : zlk (G0 ns f t1 t2) (vL114 c) 1064 = yg (w0 ns f t1 t2 c) 1064 := rfl
set_option maxRecDepth 100000 in
theorem f_1065 : zlk (G0 ns f t1 t2) (vL114 c) 1065 = yg (w0 ns f t1 t2 c) 1065 := rfl
set_option maxRecDepth 100000 in
theorem f_1066 : zlk (G0 ns f t1 t2) (vL114 c) 1066 = yg (w0 ns f t1 t2 c) 1066 := rfl
set_option maxRecDepth 100000 in
theorem f_1067 : zlk (G0 ns f t1 t2) (vL114 c) 1067 = yg (w0 ns f t1 t2 c) 1067 := rfl
set_option maxRecDepth 100000 in
theorem f_1068 : zlk (G0 ns f t1 t2) (vL114 c) 1068 = yg (w0 ns f t1 t2 c) 1068 := rfl
set_option maxRecDepth 100000 in
theorem f_1069 : zlk (G0 ns f t1 t2) (vL114 c) 1069 = yg (w0 ns f t1 t2 c) 1069 := rfl
set_option maxRecDepth 100000 in
theorem f_1070 : zlk (G0 ns f t1 t2) (vL114 c) 1070 = yg (w0 ns f t1 t2 c) 1070 := rfl
set_option maxRecDepth 100000 in
theorem f_1071 : zlk (G0 ns f t1 t2) (vL114 c) 1071 = yg (w0 ns f t1 t2 c) 1071 := rfl
set_option maxRecDepth 100000 in
theorem f_1072 : zlk (G0 ns f t1 t2) (vL114 c) 1072 = yg (w0 ns f t1 t2 c) 1072 := rfl
set_option maxRecDepth 100000 in
theorem f_1073 : zlk (G0 ns f t1 t2) (vL114 c) 1073 = yg (w0 ns f t1 t2 c) 1073 := rfl
set_option maxRecDepth 100000 in
theorem f_1074 : zlk (G0 ns f t1 t2) (vL114 c) 1074 = yg (w0 ns f t1 t2 c) 1074 := rfl
set_option maxRecDepth 100000 in
theorem f_1075 : zlk (G0 ns f t1 t2) (vL114 c) 1075 = yg (w0 ns f t1 t2 c) 1075 := rfl
set_option maxRecDepth 100000 in
theorem f_1076 : zlk (G0 ns f t1 t2) (vL114 c) 1076 = yg (w0 ns f t1 t2 c) 1076 := rfl
theorem f_all : upTo (fun i => zlk (G0 ns f t1 t2) (vL114 c) (1000 + i) = yg (w0 ns f t1 t2 c) (1000 + i)) 77 := ⟨⟨⟨⟨⟨⟨⟨⟨⟨⟨⟨⟨⟨⟨⟨⟨⟨⟨⟨⟨⟨⟨⟨⟨⟨⟨⟨⟨⟨⟨⟨⟨⟨⟨⟨⟨⟨⟨⟨⟨⟨⟨⟨⟨⟨⟨⟨⟨⟨⟨⟨⟨⟨⟨⟨⟨⟨⟨⟨⟨⟨⟨⟨⟨⟨⟨⟨⟨⟨⟨⟨⟨⟨⟨⟨⟨⟨trivial, f_1000⟩, f_1001⟩, f_1002⟩, f_1003⟩, f_1004⟩, f_1005⟩, f_1006⟩, f_1007⟩, f_1008⟩, f_1009⟩, f_1010⟩, f_1011⟩, f_1012⟩, f_1013⟩, f_1014⟩, f_1015⟩, f_1016⟩, f_1017⟩, f_1018⟩, f_1019⟩, f_1020⟩, f_1021⟩, f_1022⟩, f_1023⟩, f_1024⟩, f_1025⟩, f_1026⟩, f_1027⟩, f_1028⟩, f_1029⟩, f_1030⟩, f_1031⟩, f_1032⟩, f_1033⟩, f_1034⟩, f_1035⟩, f_1036⟩, f_1037⟩, f_1038⟩, f_1039⟩, f_1040⟩, f_1041⟩, f_1042⟩, f_1043⟩, f_1044⟩, f_1045⟩, f_1046⟩, f_1047⟩, f_1048⟩, f_1049⟩, f_1050⟩, f_1051⟩, f_1052⟩, f_1053⟩, f_1054⟩, f_1055⟩, f_1056⟩, f_1057⟩, f_1058⟩, f_1059⟩, f_1060⟩, f_1061⟩, f_1062⟩, f_1063⟩, f_1064⟩, f_1065⟩, f_1066⟩, f_1067⟩, f_1068⟩, f_1069⟩, f_1070⟩, f_1071⟩, f_1072⟩, f_1073⟩, f_1074⟩, f_1075⟩, f_1076⟩
set_option maxRecDepth 100000 in
theorem first_heap : hL 1077 16289 (G0 ns f t1 t2) (vL114 c) = yz (w0 ns f t1 t2 c) := by
  refine congrArg (fun g => ((1077, 16289, g) : zS)) ?_
  funext p
  by_cases h1 : p < 1000
  · rw [zlk_out (Or.inl h1) _ rfl]
    by_cases e0 : p = 0
    · rw [e0]; rfl
    · by_cases e1 : p = 1
      · rw [e1]; rfl
      · by_cases e2 : p = 2
        · rw [e2]; rfl
        · have a1 : G0 ns f t1 t2 p = none := by
            unfold G0
            rw [ybeq e0, ybeq e1, ybeq e2]
            rfl
          have a2 : yk (w0 ns f t1 t2 c) p = none := by
            unfold yk
            have b1 : yfix p = true := by
              unfold yfix
              rw [Bool.and_eq_true]
              exact ⟨Nat.ble_eq_true_of_le (by omega), Nat.ble_eq_true_of_le (by show p + 1 ≤ 1077; omega)⟩
            have b2 : Nat.blt p 1000 = true := Nat.ble_eq_true_of_le (by omega)
            have b3 : Nat.ble p 2 = false := by
              cases h : Nat.ble p 2 with
              | false => rfl
              | true => have := Nat.le_of_ble_eq_true h; omega
            rw [b1]
            show yfk p = none
            unfold yfk
            rw [b2, b3]
            rfl
          rw [a1]
          unfold yg
          rw [a2]
  · by_cases h2 : p < 1077
    · have := upTo_at _ (f_all (ns := ns) (f := f) (t1 := t1) (t2 := t2) (c := c)) (p - 1000) (by omega)
      rw [show 1000 + (p - 1000) = p by omega] at this
      exact this
    · rw [zlk_out (Or.inr (by omega)) _ rfl]
      have a1 : G0 ns f t1 t2 p = none := by
        unfold G0
        rw [ybeq (show p ≠ 0 by omega), ybeq (show p ≠ 1 by omega), ybeq (show p ≠ 2 by omega)]
        rfl
      have a2 : yk (w0 ns f t1 t2 c) p = none := by
        unfold yk
        have b1 : yfix p = false := by
          unfold yfix
          rw [Bool.and_eq_false_iff]
          refine Or.inr ?_
          cases h : Nat.blt p yTop with
          | false => rfl
          | true => have := zblt h; have : p < 1077 := this; omega
        rw [b1]
        show K0 ns p = none
        unfold K0
        rw [ybeq (show p ≠ 0 by omega)]
        rfl
      rw [a1]
      unfold yg
      rw [a2]
end FST
