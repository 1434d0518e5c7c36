/-! A SMALL MACHINE for the claim's methods: a heap of numbered cells, ints, longs, references; what a step, a call, a throw of it does is computed. Cells below 1000 are older than the law and only read: 0 the script, 1 and 2 the class's two tables. -/
abbrev zE : Type := (Nat × vp_A) ⊕ (Nat × List Value)
abbrev zG : Type := Nat → Option zE
abbrev zS : Type := Nat × Nat × zG
abbrev zR : Type := Option Value ⊕ Nat
abbrev zC : Type := Nat × List Value × List Value × zS
def zJ : Value := .retAddr 0
def zset (g : zG) (a : Nat) (e : zE) : zG := fun b => bif Nat.beq b a then some e else g b
def zput (h : zS) (a : Nat) (e : zE) : zS := (h.1, h.2.1, zset h.2.2 a e)
def znew (h : zS) (n : Nat) (e : zE) : zS := (h.1 + 1, h.2.1 + n, zset h.2.2 h.1 e)
def zisL : Value → Bool
  | .long _ => true
  | .double _ => true
  | _ => false
def zst1 (ls : List Value) (i : Nat) (v : Value) : Option (List Value) := bif (Nat.blt i ls.length && (Nat.beq i 0 || !(zisL (ls.getD (i - 1) zJ)))) then some (ls.set i v) else none
def zst2 (ls : List Value) (i : Nat) (v : Value) : Option (List Value) := bif (Nat.blt (i + 1) ls.length && (Nat.beq i 0 || !(zisL (ls.getD (i - 1) zJ)))) then some ((ls.set i v).set (i + 1) zJ) else none
def zfit : FieldType → Value → Bool
  | .int, .int _ => true
  | .long, .long _ => true
  | .boolean, .int x => x == 0 || x == 1
  | .object _, .ref _ => true
  | .object _, .null => true
  | .array _, .ref _ => true
  | .array _, .null => true
  | _, _ => false
def z_psh (v : Value) (pc : Nat) (ls st : List Value) (h : zS) : Option zC := some (pc, ls, v :: st, h)
def z_ild (k pc : Nat) (ls st : List Value) (h : zS) : Option zC := match ls[k]? with
  | some (.int x) => some (pc, ls, .int x :: st, h)
  | _ => none
def z_lld (k pc : Nat) (ls st : List Value) (h : zS) : Option zC := match ls[k]? with
  | some (.long x) => some (pc, ls, .long x :: st, h)
  | _ => none
def z_ald (k pc : Nat) (ls st : List Value) (h : zS) : Option zC := match ls[k]? with
  | some (.ref x) => some (pc, ls, .ref x :: st, h)
  | some .null => some (pc, ls, .null :: st, h)
  | _ => none
def z_ist (k pc : Nat) (ls st : List Value) (h : zS) : Option zC := match st with
  | .int x :: r => (match zst1 ls k (.int x) with
    | some l => some (pc, l, r, h)
    | none => none)
  | _ => none
def z_lst (k pc : Nat) (ls st : List Value) (h : zS) : Option zC := match st with
  | .long x :: r => (match zst2 ls k (.long x) with
    | some l => some (pc, l, r, h)
    | none => none)
  | _ => none
def z_ast (k pc : Nat) (ls st : List Value) (h : zS) : Option zC := match st with
  | .ref x :: r => (match zst1 ls k (.ref x) with
    | some l => some (pc, l, r, h)
    | none => none)
  | .null :: r => (match zst1 ls k .null with
    | some l => some (pc, l, r, h)
    | none => none)
  | _ => none
def z_inc (k : Nat) (n : Int) (pc : Nat) (ls st : List Value) (h : zS) : Option zC := match ls[k]? with
  | some (.int x) => (match zst1 ls k (.int (x + Int32.ofInt n)) with
    | some l => some (pc, l, st, h)
    | none => none)
  | _ => none
def z_i1 (f : Int32 → Int32) (pc : Nat) (ls st : List Value) (h : zS) : Option zC := match st with
  | .int x :: r => some (pc, ls, .int (f x) :: r, h)
  | _ => none
def z_i2 (f : Int32 → Int32 → Int32) (pc : Nat) (ls st : List Value) (h : zS) : Option zC := match st with
  | .int y :: .int x :: r => some (pc, ls, .int (f x y) :: r, h)
  | _ => none
def z_dv (f : Int32 → Int32 → Int32) (pc : Nat) (ls st : List Value) (h : zS) : Option zC := match st with
  | .int y :: .int x :: r => if y = 0 then none else some (pc, ls, .int (f x y) :: r, h)
  | _ => none
def z_l2 (f : Int64 → Int64 → Int64) (pc : Nat) (ls st : List Value) (h : zS) : Option zC := match st with
  | .long y :: .long x :: r => some (pc, ls, .long (f x y) :: r, h)
  | _ => none
def z_lcmp (pc : Nat) (ls st : List Value) (h : zS) : Option zC := match st with
  | .long y :: .long x :: r => some (pc, ls, .int (lg_cmp x y) :: r, h)
  | _ => none
def z_i2l (pc : Nat) (ls st : List Value) (h : zS) : Option zC := match st with
  | .int x :: r => some (pc, ls, .long x.toInt64 :: r, h)
  | _ => none
def z_dup (pc : Nat) (ls st : List Value) (h : zS) : Option zC := match st with
  | v :: r => bif zisL v then none else some (pc, ls, v :: v :: r, h)
  | _ => none
def z_dupx1 (pc : Nat) (ls st : List Value) (h : zS) : Option zC := match st with
  | v :: w :: r => bif (zisL v || zisL w) then none else some (pc, ls, v :: w :: v :: r, h)
  | _ => none
def z_dup2 (pc : Nat) (ls st : List Value) (h : zS) : Option zC := match st with
  | v :: w :: r => bif (zisL v || zisL w) then none else some (pc, ls, v :: w :: v :: w :: r, h)
  | _ => none
def z_pop (pc : Nat) (ls st : List Value) (h : zS) : Option zC := match st with
  | v :: r => bif zisL v then none else some (pc, ls, r, h)
  | _ => none
def z_if (o : Jvm.ClassFile.Cond) (tg pc : Nat) (ls st : List Value) (h : zS) : Option zC := match st with
  | .int x :: r => (match o with
    | .eq => if x = 0 then some (tg, ls, r, h) else some (pc, ls, r, h)
    | .ne => if ¬ x = 0 then some (tg, ls, r, h) else some (pc, ls, r, h)
    | .lt => if x < 0 then some (tg, ls, r, h) else some (pc, ls, r, h)
    | .ge => if 0 ≤ x then some (tg, ls, r, h) else some (pc, ls, r, h)
    | .gt => if 0 < x then some (tg, ls, r, h) else some (pc, ls, r, h)
    | .le => if x ≤ 0 then some (tg, ls, r, h) else some (pc, ls, r, h))
  | _ => none
def z_ic (o : Jvm.ClassFile.Cond) (tg pc : Nat) (ls st : List Value) (h : zS) : Option zC := match st with
  | .int y :: .int x :: r => (match o with
    | .eq => if x = y then some (tg, ls, r, h) else some (pc, ls, r, h)
    | .ne => if ¬ x = y then some (tg, ls, r, h) else some (pc, ls, r, h)
    | .lt => if x < y then some (tg, ls, r, h) else some (pc, ls, r, h)
    | .ge => if y ≤ x then some (tg, ls, r, h) else some (pc, ls, r, h)
    | .gt => if y < x then some (tg, ls, r, h) else some (pc, ls, r, h)
    | .le => if x ≤ y then some (tg, ls, r, h) else some (pc, ls, r, h))
  | _ => none
def z_nul (isn : Bool) (tg pc : Nat) (ls st : List Value) (h : zS) : Option zC := match st with
  | .null :: r => bif isn then some (tg, ls, r, h) else some (pc, ls, r, h)
  | .ref _ :: r => bif isn then some (pc, ls, r, h) else some (tg, ls, r, h)
  | _ => none
def z_tsw (d lo hi : Int) (os : Array Int) (pc : Nat) (ls st : List Value) (h : zS) : Option zC := match st with
  | .int x :: r => if x.toInt < lo ∨ hi < x.toInt then some (((pc : Int) + d).toNat, ls, r, h) else (match os[(x.toInt - lo).toNat]? with
    | some o => some (((pc : Int) + o).toNat, ls, r, h)
    | none => none)
  | _ => none
def z_getf (a b pc : Nat) (ls st : List Value) (h : zS) : Option zC := match st with
  | .ref p :: r => (match h.2.2 p with
    | some (.inr (ci, fs)) => bif Nat.beq ci a then (match fs[b]? with
      | some v => some (pc, ls, v :: r, h)
      | none => none) else none
    | _ => none)
  | _ => none
def zty (a : Nat) : Nat → FieldType := bif Nat.beq a 0 then tyX0 else bif Nat.beq a 1 then tyX1 else bif Nat.beq a 2 then tyX2 else bif Nat.beq a 3 then tyX3 else bif Nat.beq a 4 then tyX4 else bif Nat.beq a 5 then tyX5 else bif Nat.beq a 6 then tyX6 else bif Nat.beq a 7 then tyX7 else bif Nat.beq a 8 then tyX8 else tyX9
def zdef (a : Nat) : List Value := (List.range (zcl a).2.2).map (fun j => defaultValue (zty a j))
def z_putf (a b pc : Nat) (ls st : List Value) (h : zS) : Option zC := match st with
  | v :: .ref p :: r => (match h.2.2 p with
    | some (.inr (ci, fs)) => bif (Nat.beq ci a && Nat.blt b fs.length && Nat.ble 1000 p && zfit (zty a b) v) then some (pc, ls, r, zput h p (.inr (ci, fs.set b v))) else none
    | _ => none)
  | _ => none
def z_iald (pc : Nat) (ls st : List Value) (h : zS) : Option zC := match st with
  | .int i :: .ref p :: r => (match h.2.2 p with
    | some (.inl (t, n, .inl f)) => if ¬ (t = 0 ∨ t = 9) ∨ i < 0 ∨ n ≤ i.toNatClampNeg then none else some (pc, ls, .int (f i.toNatClampNeg) :: r, h)
    | _ => none)
  | _ => none
def z_zald (pc : Nat) (ls st : List Value) (h : zS) : Option zC := match st with
  | .int i :: .ref p :: r => (match h.2.2 p with
    | some (.inl (t, n, .inl f)) => if ¬ t = 2 ∨ i < 0 ∨ n ≤ i.toNatClampNeg then none else some (pc, ls, .int (f i.toNatClampNeg) :: r, h)
    | _ => none)
  | _ => none
def z_lald (pc : Nat) (ls st : List Value) (h : zS) : Option zC := match st with
  | .int i :: .ref p :: r => (match h.2.2 p with
    | some (.inl (t, n, .inr (.inl f))) => if ¬ t = 1 ∨ i < 0 ∨ n ≤ i.toNatClampNeg then none else some (pc, ls, .long (f i.toNatClampNeg) :: r, h)
    | _ => none)
  | _ => none
def z_aald (pc : Nat) (ls st : List Value) (h : zS) : Option zC := match st with
  | .int i :: .ref p :: r => (match h.2.2 p with
    | some (.inl (t, n, .inr (.inr (.inr (.inr f))))) => if ¬ (t = 3 ∨ t = 4) ∨ i < 0 ∨ n ≤ i.toNatClampNeg then none else some (pc, ls, va_rf (f i.toNatClampNeg) :: r, h)
    | _ => none)
  | _ => none
def z_iast (pc : Nat) (ls st : List Value) (h : zS) : Option zC := match st with
  | .int x :: .int i :: .ref p :: r => (match h.2.2 p with
    | some (.inl (t, n, .inl f)) => if ¬ t = 0 ∨ p < 1000 ∨ i < 0 ∨ n ≤ i.toNatClampNeg then none else some (pc, ls, r, zput h p (.inl (t, n, .inl (upd f i.toNatClampNeg x))))
    | _ => none)
  | _ => none
def z_zast (pc : Nat) (ls st : List Value) (h : zS) : Option zC := match st with
  | .int x :: .int i :: .ref p :: r => (match h.2.2 p with
    | some (.inl (t, n, .inl f)) => if ¬ t = 2 ∨ p < 1000 ∨ i < 0 ∨ n ≤ i.toNatClampNeg then none else some (pc, ls, r, zput h p (.inl (t, n, .inl (upd f i.toNatClampNeg (vp_nar .boolean x)))))
    | _ => none)
  | _ => none
def z_last (pc : Nat) (ls st : List Value) (h : zS) : Option zC := match st with
  | .long x :: .int i :: .ref p :: r => (match h.2.2 p with
    | some (.inl (t, n, .inr (.inl f))) => if ¬ t = 1 ∨ p < 1000 ∨ i < 0 ∨ n ≤ i.toNatClampNeg then none else some (pc, ls, r, zput h p (.inl (t, n, .inr (.inl (vp_updL f i.toNatClampNeg x)))))
    | _ => none)
  | _ => none
/-- the class of what an array of references holds -/
def zac (t : Nat) : Nat := bif Nat.beq t 3 then 5 else 2
def z_aast (pc : Nat) (ls st : List Value) (h : zS) : Option zC := match st with
  | .ref q :: .int i :: .ref p :: r => (match h.2.2 p with
    | some (.inl (t, n, .inr (.inr (.inr (.inr f))))) => (match h.2.2 q with
      | some (.inr (ci, _)) => if ¬ (t = 3 ∨ t = 4) ∨ ¬ ci = zac t ∨ p < 1000 ∨ i < 0 ∨ n ≤ i.toNatClampNeg then none else some (pc, ls, r, zput h p (.inl (t, n, .inr (.inr (.inr (.inr (va_up f i.toNatClampNeg (some q))))))))
      | _ => none)
    | _ => none)
  | .null :: .int i :: .ref p :: r => (match h.2.2 p with
    | some (.inl (t, n, .inr (.inr (.inr (.inr f))))) => if ¬ (t = 3 ∨ t = 4) ∨ p < 1000 ∨ i < 0 ∨ n ≤ i.toNatClampNeg then none else some (pc, ls, r, zput h p (.inl (t, n, .inr (.inr (.inr (.inr (va_up f i.toNatClampNeg none)))))))
    | _ => none)
  | _ => none
def z_alen (pc : Nat) (ls st : List Value) (h : zS) : Option zC := match st with
  | .ref p :: r => (match h.2.2 p with
    | some (.inl (_, n, _)) => some (pc, ls, .int (Int32.ofNat n) :: r, h)
    | _ => none)
  | _ => none
def z_newc (a b pc : Nat) (ls st : List Value) (h : zS) : Option zC := some (pc, ls, .ref h.1 :: st, znew h b (.inr (a, zdef a)))
def z_newa (a pc : Nat) (ls st : List Value) (h : zS) : Option zC := match st with
  | .int n :: r => if n < 0 ∨ 100000 < n.toNatClampNeg then none else some (pc, ls, .ref h.1 :: r, znew h n.toNatClampNeg (.inl (a, n.toNatClampNeg, bif Nat.beq a 1 then .inr (.inl fun _ => 0) else .inl fun _ => 0)))
  | _ => none
def z_newq (a pc : Nat) (ls st : List Value) (h : zS) : Option zC := match st with
  | .int n :: r => if n < 0 ∨ 100000 < n.toNatClampNeg then none else some (pc, ls, .ref h.1 :: r, znew h n.toNatClampNeg (.inl (a, n.toNatClampNeg, .inr (.inr (.inr (.inr fun _ => none))))))
  | _ => none
def z_cpy (pc : Nat) (ls st : List Value) (h : zS) : Option zC := match st with
  | .int n :: .int dp :: .ref q :: .int sp :: .ref p :: r => (match h.2.2 p, h.2.2 q with
    | some (.inl (t, n0, .inl f)), some (.inl (t', n1, .inl g)) => if ¬ t = 0 ∨ ¬ t' = 0 ∨ p = q ∨ q < 1000 ∨ p < 1000 ∨ sp < 0 ∨ dp < 0 ∨ n < 0 ∨ n0 < sp.toNatClampNeg + n.toNatClampNeg ∨ n1 < dp.toNatClampNeg + n.toNatClampNeg ∨ 1 < r.length then none else some (pc, ls, r, zput h q (.inl (t', n1, .inl (va_cpy f g sp.toNatClampNeg dp.toNatClampNeg n.toNatClampNeg))))
    | _, _ => none)
  | _ => none
def z_min (pc : Nat) (ls st : List Value) (h : zS) : Option zC := match st with
  | .int y :: .int x :: r => bif Nat.ble r.length 4 then some (pc, ls, .int (if y < x then y else x) :: r, h) else none
  | _ => none
def z_oinit (pc : Nat) (ls st : List Value) (h : zS) : Option zC := match st with
  | .ref _ :: r => bif Nat.ble r.length 4 then some (pc, ls, r, h) else none
  | _ => none
/-- how many bytes an instruction has -/
def zlen : Instr → Nat
  | .aload _ => 2 | .astore _ => 2 | .iload _ => 2 | .istore _ => 2 | .lload _ => 2 | .lstore _ => 2 | .bipush _ => 2 | .ldc _ => 2 | .newarray _ => 2
  | .sipush _ => 3 | .iinc _ _ => 3 | .goto _ => 3 | .ifCond _ _ => 3 | .if_icmp _ _ => 3 | .ifnull _ => 3 | .ifnonnull _ => 3 | .getfield _ => 3 | .putfield _ => 3 | .getstatic _ => 3
  | .invokevirtual _ => 3 | .invokestatic _ => 3 | .invokespecial _ => 3 | .new _ => 3 | .anewarray _ => 3 | .ldc_w _ => 3
  | _ => 1
def zstepA (e : zI) (pc : Nat) (ls st : List Value) (h : zS) : Option zC :=
  match e.1 with
  | .iconst n => z_psh (.int (Int32.ofInt n)) (pc + 1) ls st h
  | .bipush n => z_psh (.int (Int8.ofInt n).toInt32) (pc + 2) ls st h
  | .sipush n => z_psh (.int (Int16.ofInt n).toInt32) (pc + 3) ls st h
  | .lconst n => z_psh (.long (Int64.ofNat n.val)) (pc + 1) ls st h
  | .aconst_null => z_psh .null (pc + 1) ls st h
  | .ldc _ => z_psh (.int (Int32.ofNat e.2.2.1)) (pc + 2) ls st h
  | .ldc_w _ => z_psh (.int (Int32.ofNat e.2.2.1)) (pc + 3) ls st h
  | .iload_n k => z_ild k.val (pc + 1) ls st h
  | .iload k => z_ild k (pc + 2) ls st h
  | .lload_n k => z_lld k.val (pc + 1) ls st h
  | .lload k => z_lld k (pc + 2) ls st h
  | .aload_n k => z_ald k.val (pc + 1) ls st h
  | .aload k => z_ald k (pc + 2) ls st h
  | .istore_n k => z_ist k.val (pc + 1) ls st h
  | .istore k => z_ist k (pc + 2) ls st h
  | .lstore_n k => z_lst k.val (pc + 1) ls st h
  | .lstore k => z_lst k (pc + 2) ls st h
  | .astore_n k => z_ast k.val (pc + 1) ls st h
  | .astore k => z_ast k (pc + 2) ls st h
  | .iinc k n => z_inc k n (pc + 3) ls st h
  | .iadd => z_i2 (fun x y => x + y) (pc + 1) ls st h
  | .isub => z_i2 (fun x y => x - y) (pc + 1) ls st h
  | .imul => z_i2 (fun x y => x * y) (pc + 1) ls st h
  | .iand => z_i2 (fun x y => x &&& y) (pc + 1) ls st h
  | .ior => z_i2 (fun x y => x ||| y) (pc + 1) ls st h
  | .ixor => z_i2 (fun x y => x ^^^ y) (pc + 1) ls st h
  | .ishl => z_i2 (fun x y => x <<< (y &&& 31)) (pc + 1) ls st h
  | .ishr => z_i2 (fun x y => x >>> (y &&& 31)) (pc + 1) ls st h
  | .idiv => z_dv (fun x y => x / y) (pc + 1) ls st h
  | .irem => z_dv (fun x y => x - x / y * y) (pc + 1) ls st h
  | .ineg => z_i1 (fun x => -x) (pc + 1) ls st h
  | .ladd => z_l2 (fun x y => x + y) (pc + 1) ls st h
  | .lsub => z_l2 (fun x y => x - y) (pc + 1) ls st h
  | .lcmp => z_lcmp (pc + 1) ls st h
  | .i2l => z_i2l (pc + 1) ls st h
  | .dup => z_dup (pc + 1) ls st h
  | .dup_x1 => z_dupx1 (pc + 1) ls st h
  | .dup2 => z_dup2 (pc + 1) ls st h
  | .pop => z_pop (pc + 1) ls st h
  | .goto _ => some (e.2.2.1, ls, st, h)
  | .ifCond o _ => z_if o e.2.2.1 (pc + 3) ls st h
  | .if_icmp o _ => z_ic o e.2.2.1 (pc + 3) ls st h
  | .ifnull _ => z_nul true e.2.2.1 (pc + 3) ls st h
  | .ifnonnull _ => z_nul false e.2.2.1 (pc + 3) ls st h
  | .getfield _ => z_getf e.2.2.1 e.2.2.2.1 (pc + 3) ls st h
  | .putfield _ => z_putf e.2.2.1 e.2.2.2.1 (pc + 3) ls st h
  | .getstatic _ => z_psh (.ref e.2.2.1) (pc + 3) ls st h
  | .iaload => z_iald (pc + 1) ls st h
  | .baload => z_zald (pc + 1) ls st h
  | .laload => z_lald (pc + 1) ls st h
  | .aaload => z_aald (pc + 1) ls st h
  | .iastore => z_iast (pc + 1) ls st h
  | .bastore => z_zast (pc + 1) ls st h
  | .lastore => z_last (pc + 1) ls st h
  | .aastore => z_aast (pc + 1) ls st h
  | .arraylength => z_alen (pc + 1) ls st h
  | .new _ => bif Nat.beq e.2.2.2.2.1 0 then z_newc e.2.2.1 e.2.2.2.1 (pc + 3) ls st h else none
  | .newarray _ => z_newa e.2.2.1 (pc + 2) ls st h
  | .anewarray _ => z_newq e.2.2.1 (pc + 3) ls st h
  | .invokestatic _ => bif Nat.beq e.2.2.2.2.1 3 then z_cpy (pc + 3) ls st h else bif Nat.beq e.2.2.2.2.1 4 then z_min (pc + 3) ls st h else none
  | .invokespecial _ => bif Nat.beq e.2.2.2.2.1 2 then z_oinit (pc + 3) ls st h else none
  | _ => none
def zstep1 (e : zI) (pc : Nat) (ls st : List Value) (h : zS) : Option zC :=
  match e.1 with
  | .tableswitch d lo hi os => z_tsw d lo hi os pc ls st h
  | _ => bif Nat.beq e.2.1 (zlen e.1) then zstepA e pc ls st h else none
def zstep (y pc : Nat) (ls st : List Value) (h : zS) : Option zC := match ztab y pc with
  | some e => zstep1 e pc ls st h
  | none => none
/-- what returns, or throws -/
def zretv (i : Instr) (st : List Value) : Option (Option Value) := match i with
  | .ireturn => (match st with | [.int x] => some (some (.int x)) | _ => none)
  | .lreturn => (match st with | [.long x] => some (some (.long x)) | _ => none)
  | .areturn => (match st with | [.ref x] => some (some (.ref x)) | [.null] => some (some .null) | _ => none)
  | .return_ => (match st with | [] => some none | _ => none)
  | _ => none
def zfitR (o : Option FieldType) (v : Option Value) : Bool := match o, v with
  | some t, some x => zfit t x
  | none, none => true
  | _, _ => false
def zend (d y pc : Nat) (st : List Value) (h : zS) : Option (zR × zS) := match ztab y pc with
  | some (.new _, 3, a, _, 3, _) => bif (Nat.ble 6 d && Nat.ble st.length 4) then some (.inr a, h.1 + 1, h.2.1 + 6, h.2.2) else none
  | some (i, 1, _) => (match zretv i st with
    | some v => bif zfitR (zrt y) v then some (.inl v, h) else none
    | none => none)
  | _ => none
/-- what calls: whom, with what, what stays on the stack -/
def zcall (y pc : Nat) (st : List Value) (h : zS) : Option (Nat × List Value × List Value) := match ztab y pc with
  | some (.invokevirtual _, 3, a, b, 0, _) => (match st.drop b with
    | .ref p :: r => (match h.2.2 p with
      | some (.inr (ci, _)) => bif (Nat.beq ci (zci a) && Nat.ble r.length 4 && Nat.beq (st.take b).length b) then some (a, .ref p :: (st.take b).reverse, r) else none
      | _ => none)
    | _ => none)
  | some (.invokestatic _, 3, a, b, 0, _) => bif (Nat.ble (st.drop b).length 4 && Nat.beq (st.take b).length b) then some (a, (st.take b).reverse, st.drop b) else none
  | some (.invokestatic _, 3, a, b, 1, _) => bif (Nat.ble (st.drop b).length 4 && Nat.beq (st.take b).length b) then some (a, (st.take b).reverse, st.drop b) else none
  | some (.invokespecial _, 3, a, b, 0, _) => (match st.drop b with
    | .ref p :: r => bif (Nat.ble r.length 4 && Nat.beq (st.take b).length b) then some (a, .ref p :: (st.take b).reverse, r) else none
    | _ => none)
  | some (.invokespecial _, 3, a, b, 1, _) => (match st.drop b with
    | .ref p :: r => bif (Nat.ble r.length 4 && Nat.beq (st.take b).length b) then some (a, .ref p :: (st.take b).reverse, r) else none
    | _ => none)
  | _ => none
def zct (c : Nat) : Nat := bif Nat.beq c 13 then 0 else bif Nat.beq c 15 then 1 else bif Nat.beq c 27 then 2 else 9
/-- where a thrown exception is caught: the local that it goes to, where it goes on -/
def zhnd (y pc E : Nat) : Option (Nat × Nat) := match (zhh y).find? (fun q => Nat.ble q.1 pc && Nat.blt pc q.2.1 && Nat.beq (zct q.2.2.2) E) with
  | some q => (match ztab y q.2.2.1 with
    | some (.astore_n k, 1, _) => some (k.val, q.2.2.1 + 1)
    | some (.astore k, 2, _) => some (k, q.2.2.1 + 2)
    | _ => none)
  | none => none
def zexp : List Value → List Value
  | [] => []
  | v :: r => bif zisL v then v :: zJ :: zexp r else v :: zexp r
def zent (y : Nat) (as : List Value) : List Value := zexp as ++ List.replicate (zml y - (zexp as).length) zJ
def zrun : Nat → Nat → Nat → Nat → List Value → List Value → zS → Option (zR × zS)
  | 0, _, _, _, _, _, _ => none
  | n + 1, d, y, pc, ls, st, h =>
    match zstep y pc ls st h with
    | some c => zrun n d y c.1 c.2.1 c.2.2.1 c.2.2.2
    | none => (match zend d y pc st h with
      | some r => some r
      | none => (match zcall y pc st h with
        | none => none
        | some w => (match d with
          | 0 => none
          | d' + 1 => bif Nat.ble (zexp w.2.1).length (zml w.1) then (match zrun n d' w.1 0 (zent w.1 w.2.1) [] h with
            | none => none
            | some (.inl v, h1) => zrun n (d' + 1) y (pc + 3) ls (v.toList ++ w.2.2) h1
            | some (.inr E, h1) => bif Nat.beq (zkd w.1) 0 then (match zhnd y pc E with
              | none => none
              | some k => (match zst1 ls k.1 zJ with
                | none => none
                | some l => zrun n (d' + 1) y k.2 l [] h1)) else none) else none)))
