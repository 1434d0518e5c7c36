/-! the model's pass: pieces -/
def RMs (th : Nat) (pn : Int32) (s : ms) (X : xs) (sl : Nat → Option Nat) : Prop := RMa th pn s X ∧ RMr (sI s) (sA s) sl (xR X) ∧ RMt (sA s) X sl
def pnb (b : Bool) : Int32 := bif b then 0 else 1
section PSM
variable {d : Nat} {c : zm} {s : ms} {th : Nat} {pn : Int32} {X : xs} {sl : Nat → Option Nat} {N : Nat} {H : Nat → Option Nat}
theorem RMs.rm (R : RMs th pn s X sl) : RM th pn s X := ⟨sl, R⟩
theorem RMs.mach (R : RMs th pn s X sl) (a : am) : RMs th pn (pmM s a) (xsA X a) sl := by
  obtain ⟨Ra, Rr, Rt⟩ := R
  refine ⟨Ra.mach a, RMr_keep Rr rfl rfl rfl rfl rfl rfl rfl, Rt.keep (fun p h1 h2 => ?_) rfl rfl⟩
  show y1 (y1 (y1 (y1 (sA s) 1034 _) 1033 _) 1035 _) 1036 _ p = sA s p
  rw [y1_ne _ _ (by omega), y1_ne _ _ (by omega), y1_ne _ _ (by omega), y1_ne _ _ (by omega)]
theorem RMs.n0 (R : RMs th pn s X sl) (v : Int64) : RMs th pn (tL s 14 (sL s 14 + v)) (xsN X 0 v) sl := ⟨R.1.n0 v, RMr_keep R.2.1 rfl rfl rfl rfl rfl rfl rfl, R.2.2.keep (tmk.rf _) rfl rfl⟩
theorem RMs.n1 (R : RMs th pn s X sl) (v : Int64) : RMs th pn (tL s 15 (sL s 15 + v)) (xsN X 1 v) sl := ⟨R.1.n1 v, RMr_keep R.2.1 rfl rfl rfl rfl rfl rfl rfl, R.2.2.keep (tmk.rf _) rfl rfl⟩
theorem RMs.n2 (R : RMs th pn s X sl) (v : Int64) : RMs th pn (tL s 16 (sL s 16 + v)) (xsN X 2 v) sl := ⟨R.1.n2 v, RMr_keep R.2.1 rfl rfl rfl rfl rfl rfl rfl, R.2.2.keep (tmk.rf _) rfl rfl⟩
theorem RMs.pnx (R : RMs th pn s X sl) (v : Int32) : RMs th v (tI s 19 v) X sl := ⟨R.1.pnx v, RMr_keep R.2.1 rfl rfl rfl rfl rfl rfl rfl, R.2.2.keep (tmk.rf _) rfl rfl⟩
theorem RMs.mod (R : RMs th pn s X sl) {t a p0 i0 : Nat} {T : tr} (f : tr → tr) {v : Int32} (ht : t < 16) (hs : sl t = some a) (hT : xT X a = some T) (hp : 1040 ≤ p0 ∧ p0 ≤ 1058) (hi : slo p0 i0 = t) (h : tHm (xC X) (y1 (sA s) p0 (upd (sA s p0) i0 v)) t (f T)) : RMs th pn (tA s p0 (upd (sA s p0) i0 v)) (xMod X a f) sl := by
  obtain ⟨Ra, Rr, Rt⟩ := R
  refine ⟨(Ra.A (p := p0) _ (by omega)).xx ⟨_, _, rfl⟩, RMr_keep Rr rfl rfl rfl rfl rfl (y1_ne _ _ (by omega)) (y1_ne _ _ (by omega)), ?_⟩
  refine Rt.set (T' := f T) ht hs (sfr_upd _ _ (Or.inl hi)) (y1_ne _ _ (by omega)) ?_ rfl h
  show nSet (xT X) a ((xT X a).map f) = nSet (xT X) a (some (f T))
  rw [hT]
  rfl
theorem RMs.hm (R : RMs th pn s X sl) {t a : Nat} {T : tr} (ht : t < 16) (hs : sl t = some a) (hT : xT X a = some T) : tHm (xC X) (sA s) t T := by
  obtain ⟨z1, T', z2, z3⟩ := R.2.2.2.2.1 t a ht hs
  rw [hT] at z2
  cases z2
  exact z3
theorem xFol_sw (X : xs) (p : pth) : xsA (xsN X 0 (Int32.ofNat (xHow X p)).toInt64) (afol (xC X) (pGo p) (pLn p) 0 (xA X)).2 = xFol X p := rfl
theorem c9_folt {F : Int32 → zm → Prop} (R : RMs th pn s X sl) (G : xGood N H X) {t : Nat} {p : pth} (ht : t < 16) (P : pOk (xC X) H p) (hpc : xPc X = pAd p 0) (hg : ∀ i, i < pLn p → sA s 1042 (t * 48 + i) = pGo p i) (hN : N + 48 < 2000000000) (k : ∀ s', RMs th pn s' (xFol X p) sl → F (Int32.ofNat (xHow X p)) (put c s')) : zGo (d + 3) m_X9_follow 0 [.ref 1031, .ref 1041, .ref 1042, .int (Int32.ofNat (t * 48)), .int (Int32.ofNat (pLn p)), zJ] [] (yz (put c s)) (zKi F) := by
  have hv := G.2.2.2.1
  have he := G.2.2.1
  have V := G.1
  have hC : sA s 1032 = xC X := R.1.2.2.2.2.2.2.2.2.2.2.1
  have hw := R.1.mid (c := c)
  have R2 := (R.n0 (Int32.ofNat (xHow X p)).toInt64).mach (afol (xC X) (pGo p) (pLn p) 0 (xA X)).2
  rw [xFol_sw] at R2
  have k' := k _ R2
  unfold xHow at k'
  obtain ⟨p1, p2, p3, p4, p5⟩ := P
  have hpc : (xA X).1 = pAd p 0 := hpc
  generalize xA X = a at hw hv k' he hpc
  obtain ⟨pc, h, em, n, stk, loc, mem, out⟩ := a
  have he : em ≤ N := he
  have := c9_follow_t (d := d) (F := F) (c := c) hC V p4 hg (by omega) p2 (n := n) (loc := loc) (mem := mem) (out := out) (stk := stk) (em := em) hpc hv (by omega) k'
  rw [← hw] at this
  exact this
theorem c9_folb {F : Int32 → zm → Prop} (R : RMs th pn s X sl) (G : xGood N H X) {b : Nat} {p : pth} (hb : b < 64) (P : pOk (xC X) H p) (hpc : xPc X = pAd p 0) (hg : ∀ i, i < pLn p → sA s 1055 (b * 48 + i) = pGo p i) (hN : N + 48 < 2000000000) (k : ∀ s', RMs th pn s' (xFol X p) sl → F (Int32.ofNat (xHow X p)) (put c s')) : zGo (d + 3) m_X9_follow 0 [.ref 1031, .ref 1054, .ref 1055, .int (Int32.ofNat (b * 48)), .int (Int32.ofNat (pLn p)), zJ] [] (yz (put c s)) (zKi F) := by
  have hv := G.2.2.2.1
  have he := G.2.2.1
  have V := G.1
  have hC : sA s 1032 = xC X := R.1.2.2.2.2.2.2.2.2.2.2.1
  have hw := R.1.mid (c := c)
  have R2 := (R.n0 (Int32.ofNat (xHow X p)).toInt64).mach (afol (xC X) (pGo p) (pLn p) 0 (xA X)).2
  rw [xFol_sw] at R2
  have k' := k _ R2
  unfold xHow at k'
  obtain ⟨p1, p2, p3, p4, p5⟩ := P
  have hpc : (xA X).1 = pAd p 0 := hpc
  generalize xA X = a at hw hv k' he hpc
  obtain ⟨pc, h, em, n, stk, loc, mem, out⟩ := a
  have he : em ≤ N := he
  have := c9_follow_b (d := d) (F := F) (c := c) hC V p4 hg (by omega) p2 (n := n) (loc := loc) (mem := mem) (out := out) (stk := stk) (em := em) hpc hv (by omega) k'
  rw [← hw] at this
  exact this
theorem c9_268 {F : Int32 → zm → Prop} {a1 a2 a3 : Int32} {b : Bool} {u5 u6 u7 u8 : Value} (h5 : zisL u5 = false) (h6 : zisL u6 = false) (h7 : zisL u7 = false) (h8 : zisL u8 = false) (R : RMs th pn s X sl) (k : ∀ s', RM th (pnb b) s' X → F a3 (put c s')) : zGo (d + 1) m_X9_pass 268 [.ref 1031, .int a1, .int a2, .int a3, .int (if b = true then 1 else 0), u5, u6, u7, u8] [] (yz (put c s)) (zKi F) := by
  refine B_X9_pass_268 _ _ _ _ _ _ _ _ h5 h6 h7 h8 ?_
  rw [if01, p_I, p_I]
  cases b with
  | false => exact ⟨fun _ => k _ (R.pnx 1).rm, fun z => absurd rfl z⟩
  | true => exact ⟨fun z => (by cases z), fun _ => k _ (R.pnx 0).rm⟩
/-- it came round -/
theorem c9_round {F : Int32 → zm → Prop} {a2 a3 : Int32} {t a : Nat} {T : tr} {u5 u6 u7 u8 : Value} (h5 : zisL u5 = false) (h6 : zisL u6 = false) (h7 : zisL u7 = false) (h8 : zisL u8 = false) (R : RMs th pn s X sl) (ht : t < 16) (hs : sl t = some a) (hT : xT X a = some T) (k : ∀ s', RM th 0 s' (xRound X a) → F a3 (put c s')) : zGo (d + 1) m_X9_pass 243 [.ref 1031, .int (Int32.ofNat t), .int a2, .int a3, .int 1, u5, u6, u7, u8] [] (yz (put c s)) (zKi F) := by
  refine B_X9_pass_243 _ _ _ _ _ _ _ _ h5 h6 h7 h8 ⟨fun z => absurd z (by decide), fun _ => ⟨n_in ht (by decide), n_in ht (by decide), ?_⟩⟩
  rw [show yL (put c s) 1031 16 = sL s 16 from rfl, show yA (put c s) 1047 = sA s 1047 from rfl, n_cl (by omega), p_L, p_A _ _ _ _ _ rfl]
  have R1 := R.n2 1
  have R2 := R1.mod (X := xsN X 2 1) (p0 := 1047) (i0 := t) tRound ht hs hT (by decide) (slo1 (by decide)) (tHm_round (R1.hm ht hs hT))
  rw [xRound_sw] at R2
  exact c9_268 (b := true) h5 h6 h7 h8 R2 k
/-- it did not -/
theorem c9_left {F : Int32 → zm → Prop} {a1 a2 a3 : Int32} {u5 u6 u7 u8 : Value} (h5 : zisL u5 = false) (h6 : zisL u6 = false) (h7 : zisL u7 = false) (h8 : zisL u8 = false) (R : RMs th pn s X sl) (k : ∀ s', RM th 1 s' X → F a3 (put c s')) : zGo (d + 1) m_X9_pass 243 [.ref 1031, .int a1, .int a2, .int a3, .int 0, u5, u6, u7, u8] [] (yz (put c s)) (zKi F) := by
  refine B_X9_pass_243 _ _ _ _ _ _ _ _ h5 h6 h7 h8 ⟨fun _ => ?_, fun z => absurd rfl z⟩
  exact c9_268 (b := false) h5 h6 h7 h8 R k
end PSM
