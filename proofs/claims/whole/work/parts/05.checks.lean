/-! what is checked of the method table, by program: that it is the code's own, and that the words that its instructions need stand among the tables' words -/
def zcl (a : Nat) : vw_C := vwCl.getD a ("", fun _ => ("", "", "", false), 0)
def zEx (a : Nat) : String := bif Nat.beq a 0 then "java/lang/IndexOutOfBoundsException" else bif Nat.beq a 1 then "java/lang/IllegalStateException" else "java/lang/IllegalArgumentException"
def zIc (a : Nat) : Nat := bif Nat.beq a 0 then 64 else bif Nat.beq a 1 then 74 else 110
/-- the types of arrays by their numbers: 0 int, 1 long, 2 boolean, 3 of traces, 4 of paths -/
def zaT (a : Nat) : FieldType := bif Nat.beq a 0 then .int else bif Nat.beq a 1 then .long else bif Nat.beq a 2 then .boolean else bif Nat.beq a 3 then .object "LoopTracer$Trace" else .object "LoopTracer$Path"
def zAn (a : Nat) : String := bif Nat.beq a 3 then "LoopTracer$Trace" else "LoopTracer$Path"
def zSf (a : Nat) : String := bif Nat.beq a 1 then "TAKES" else "GIVES"
def zhas (q : Nat) (w : Cond) : Bool := decide (lw_tbl[q]? = some w) && goodWord w
def zhasN (q : Nat) (w : Cond) : Bool := decide (lw_tbl[q]? = some w)
def zstrs : List (Nat × String) := [(62, "no such word"), (72, "not loading"), (86, "no such local"), (88, "loading or running"), (93, "not verified"), (108, "no such fuel"), (111, "not running"), (140, "no such place"), (154, "no such int on the stack"), (162, "no such output"), (179, "no such count"), (189, "no such trace"), (224, "no such guard")]
def zokPar (a b : Nat) : Bool := decide ((parseMethodDescriptor (znm a).desc).map (fun d => d.parameters.length) = some b)
def zokX (y pc : Nat) : zI → Bool
  | (.getfield i, _, a, b, _, q) => zhas q (.fieldLink (znm y).cls i ((zcl a).2.1 b).1 ((zcl a).2.1 b).2.1 ((zcl a).2.1 b).2.2.1) && Nat.blt b (zcl a).2.2 && Nat.blt a 10
  | (.putfield i, _, a, b, _, q) => zhas q (.fieldLink (znm y).cls i ((zcl a).2.1 b).1 ((zcl a).2.1 b).2.1 ((zcl a).2.1 b).2.2.1) && Nat.blt b (zcl a).2.2 && Nat.blt a 10 && (!((zcl a).2.1 b).2.2.2 || (decide ((znm y).name = "<init>") && decide (((zcl a).2.1 b).1 = (znm y).cls)))
  | (.getstatic i, _, a, _, _, q) => zhasN q (.fieldLinkNest (znm y).cls i "LoopTracer" (zSf a) "[I" "LoopTracer") && (Nat.beq a 1 || Nat.beq a 2)
  | (.invokevirtual i, _, a, b, k, q) => zhas q (.methodLink (znm y).cls i (znm a)) && Nat.beq k 0 && Nat.blt a zN && zokPar a b && (zhh a).isEmpty && Nat.beq (zkd a) 0
  | (.invokestatic i, _, a, b, k, q) => (bif Nat.beq k 0 then zhas q (.methodLink (znm y).cls i (znm a)) && Nat.blt a zN && zokPar a b && Nat.beq (zkd a) 1 else bif Nat.beq k 1 then zhasN q (.methodLinkNest (znm y).cls i (znm a) "LoopTracer") && Nat.blt a zN && zokPar a b && (zhh a).isEmpty && Nat.beq (zkd a) 1 else bif Nat.beq k 3 then zhas q (.methodLink (znm y).cls i arraycopyName) else Nat.beq k 4 && zhas q (.methodLink (znm y).cls i Lib.Math.min.name))
  | (.invokespecial i, _, a, b, k, q) => (bif Nat.beq k 0 then zhas q (.methodLink (znm y).cls i (znm a)) && Nat.blt a zN && zokPar a b && (zhh a).isEmpty && decide ((znm a).name = "<init>") && decide (zrt a = none) && Nat.beq (zkd a) 2 else bif Nat.beq k 1 then zhasN q (.methodLinkNest (znm y).cls i (znm a) "LoopTracer") && Nat.blt a zN && zokPar a b && (zhh a).isEmpty && decide ((znm a).name = "<init>") && decide (zrt a = none) && Nat.beq (zkd a) 2 else Nat.beq k 2 && zhas q (.methodLink (znm y).cls i objectInit))
  | (.new i, _, a, b, k, q) => (bif Nat.beq k 0 then zhas q (.classLink (znm y).cls i (zcl a).1) && Nat.beq b (zcl a).2.2 && Nat.blt a 10 else Nat.beq k 3 && zhas q (.classLink (znm y).cls i (zEx a)) && Nat.blt a 3 && decide ((znm y).cls = "LoopTracer") && (zhh y).isEmpty && decide (decode (zcode y) (pc + 3) = .ok (.dup, 1)) && zstrs.any (fun t => decide (decode (zcode y) (pc + 4) = .ok (.ldc t.1, 2))) && decide (decode (zcode y) (pc + 6) = .ok (.invokespecial (zIc a), 3)) && decide (decode (zcode y) (pc + 9) = .ok (.athrow, 1)))
  | (.anewarray i, _, a, _, _, q) => zhas q (.classLink (znm y).cls i (zAn a)) && (Nat.beq a 3 || Nat.beq a 4)
  | (.newarray t, _, a, _, _, _) => decide (newarray.typeOf t = zaT a) && Nat.blt a 3
  | (.ldc i, _, a, _, _, q) => zhas q (.constant (znm y).cls i (Int32.ofNat a))
  | (.ldc_w i, _, a, _, _, q) => zhas q (.constant (znm y).cls i (Int32.ofNat a))
  | (.goto o, _, a, _, _, _) => decide ((pc : Int) + o = (a : Int))
  | (.ifCond _ o, _, a, _, _, _) => decide ((pc : Int) + o = (a : Int))
  | (.if_icmp _ o, _, a, _, _, _) => decide ((pc : Int) + o = (a : Int))
  | (.ifnull o, _, a, _, _, _) => decide ((pc : Int) + o = (a : Int))
  | (.ifnonnull o, _, a, _, _, _) => decide ((pc : Int) + o = (a : Int))
  | (.tableswitch d lo hi os, _, _, _, _, _) => decide (0 ≤ (pc : Int) + d) && os.toList.all (fun o => decide (0 ≤ (pc : Int) + o))
  | _ => true
def zokI (y pc : Nat) : Bool := match ztab y pc with
  | none => true
  | some e => decide (decode (zcode y) pc = .ok (e.1, e.2.1)) && zokX y pc e
def zokT (y n : Nat) : Bool := (List.range n).all (zokI y)
def zokR (y a n : Nat) : Bool := (List.range n).all (fun i => zokI y (a + i))
def zcw (y : Nat) : Cond := match zhh y with
  | [] => .code (znm y) (zcode y) (zml y) (zrt y)
  | q :: r => .codeWith (znm y) (zcode y) (zml y) (zrt y) (q :: r)
/-- a method's own words: where its code stands; static or of an object; what is selected; that its class is initialised -/
def zokM (y p0 p1 p2 p3 : Nat) : Bool := zhas p0 (zcw y) && (bif Nat.beq (zkd y) 0 then zhas p1 (.instanceMethod (znm y)) && zhas p2 (.selects (znm y).cls (znm y) (znm y)) else bif Nat.beq (zkd y) 1 then zhas p1 (.static (znm y)) else zhas p1 (.instanceMethod (znm y))) && zhas p3 (.initialized (znm y).cls) && Nat.ble (zml y) 20 && plainName (znm y).cls && decide ((znm y).cls ≠ "java/lang/invoke/MethodHandle") && decide ((znm y).cls ≠ "java/lang/invoke/VarHandle") && (bif Nat.beq (zkd y) 0 then Nat.blt (zci y) 10 && decide ((zcl (zci y)).1 = (znm y).cls) else true)
