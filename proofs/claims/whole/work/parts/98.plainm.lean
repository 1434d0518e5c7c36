/-! the model's plain step -/
section PLM
variable {d : Nat} {c : zm} {s : ms} {th : Nat} {pn : Int32} {X : xs} {sl : Nat → Option Nat} {N : Nat} {H : Nat → Option Nat}
theorem c9_brk {F : Int32 → zm → Prop} (R : RMa th pn s X) (G : xGood N H X) (k : F (if xBrk X = true then 1 else 0) (put c s)) : zGo (d + 1) m_X9_breaks 0 [.ref 1031] [] (yz (put c s)) (zKi F) := by
  have hv := G.1.2.2.2 _ _ G.2.2.2.1
  have hm := G.1.2.1
  have hw := R.mid (c := c)
  have hC : sA s 1032 = xC X := R.2.2.2.2.2.2.2.2.2.2.1
  unfold xBrk at k
  generalize xA X = a at hw hv k
  obtain ⟨pc, h, em, n, stk, loc, mem, out⟩ := a
  obtain ⟨u1, u2, u3, u4, -⟩ := hv
  have k' : F (if (aop (xC X) pc = 7 ∨ aop (xC X) pc = 8) ∧ stk (h - 1) = 0 then 1 else 0) (putM c s (pc, h, em, n, stk, loc, mem, out)) := by
    rw [← hw]
    have : (if (aop (xC X) pc = 7 ∨ aop (xC X) pc = 8) ∧ stk (h - 1) = 0 then (1 : Int32) else 0) = (if abrk (xC X) pc h stk = true then 1 else 0) := by
      by_cases c : abrk (xC X) pc h stk = true
      · rw [if_pos c, if_pos ((abrk_iff _ _ _ _).mp c)]
      · rw [if_neg c, if_neg (fun z => c ((abrk_iff _ _ _ _).mpr z))]
    rw [this]
    exact k
  have u1 : pc < xM X := u1
  have := c9_breaks (d := d) (F := F) hC (show pc < 200 by omega) u3 (fun z => by
    have : tk (aop (xC X) pc) = 2 := by
      rcases z with z | z <;> rw [z] <;> rfl
    have u4 : tk (aop (xC X) pc) ≤ h := u4
    show 0 < h
    omega) k'
  rw [← hw] at this
  exact this
theorem c9_ch {F : Int32 → zm → Prop} (R : RMa th pn s X) (G : xGood N H X) (k : F (xCh X) (put c s)) : zGo (d + 1) m_X9_choice 0 [.ref 1031, zJ] [] (yz (put c s)) (zKi F) := by
  have hv := G.1.2.2.2 _ _ G.2.2.2.1
  have hm := G.1.2.1
  have hw := R.mid (c := c)
  have hC : sA s 1032 = xC X := R.2.2.2.2.2.2.2.2.2.2.1
  unfold xCh at k
  generalize xA X = a at hw hv k
  obtain ⟨pc, h, em, n, stk, loc, mem, out⟩ := a
  obtain ⟨u1, u2, u3, u4, -⟩ := hv
  have u1 : pc < xM X := u1
  have k' : F (achoice (aop (xC X) pc) h stk) (putM c s (pc, h, em, n, stk, loc, mem, out)) := by
    rw [← hw]
    exact k
  have := c9_choice (d := d) (F := F) hC (show pc < 200 by omega) u3 (fun z => by
    have : tk (aop (xC X) pc) = 1 := by
      rcases z with z | z <;> rw [z] <;> rfl
    have u4 : tk (aop (xC X) pc) ≤ h := u4
    show 0 < h
    omega) k'
  rw [← hw] at this
  exact this
theorem c9_actw {F : zm → Prop} (R : RMa th pn s X) (G : xGood N H X) (hb : ¬ xBrk X = true) (hN : N < 2000000000) (k : F (put c (pmM s (astep (xC X) (xA X))))) : zGo (d + 2) m_X9_act 0 [.ref 1031, zJ, zJ, zJ] [] (yz (put c s)) (zKv F) := by
  have hv := G.2.2.2.1
  have he := G.2.2.1
  have hw := R.mid (c := c)
  have V := G.1
  have hC : sA s 1032 = xC X := R.2.2.2.2.2.2.2.2.2.2.1
  unfold xBrk at hb
  generalize xA X = a at hw hv k hb he
  obtain ⟨pc, h, em, n, stk, loc, mem, out⟩ := a
  have he : em ≤ N := he
  have := c9_act (d := d) (F := F) (c := c) hC (n := n) (loc := loc) (mem := mem) (out := out) (V.safe (em := em) (stk := stk) hv (by omega) (fun z z0 => hb ((abrk_iff _ _ _ _).mpr ⟨z, z0⟩))) k
  rw [← hw] at this
  exact this
/-- a step is noted -/
theorem RM.add (Ra : RMa th pn s X) (Rr : RMr (sI s) (sA s) sl (xR X)) (Rt : RMt (sA s) X sl) {r : rk} (hr : xR X = some r) (hl : pLn r.2.2 < 48) {a q : Nat} {ch : Int32} (ha : a = pAd r.2.2 (pLn r.2.2)) : RM th pn (tI (tA (tA s 1059 (upd (sA s 1059) (pLn r.2.2) (Int32.ofNat a))) 1060 (upd (sA s 1060) (pLn r.2.2) ch)) 46 (Int32.ofNat (pLn r.2.2 + 1))) (xsR X (some (r.1, r.2.1, pAdd r.2.2 ch q))) := by
  rw [hr] at Rr
  obtain ⟨q1, q2, q3, q4, q5, q6⟩ := Rr
  refine ⟨sl, ?_, ⟨q1, q2, q3, q4, rfl, fun i hi => ?_⟩, Rt.keep ((tmk_A _ _ (by decide)).trans (tmk_A _ _ (by decide))) rfl rfl⟩
  · exact (((Ra.A (p := 1059) _ (by decide)).A (p := 1060) _ (by decide)).I (b := 46) _ (by decide)).xx ⟨_, _, rfl⟩
  · have hi : i < pLn r.2.2 + 1 := hi
    show upd (sA s 1059) (pLn r.2.2) (Int32.ofNat a) i = Int32.ofNat (nSet (pAd r.2.2) (pLn r.2.2 + 1) q i) ∧ upd (sA s 1060) (pLn r.2.2) ch i = nSet (pGo r.2.2) (pLn r.2.2) ch i
    rw [nSet_ne _ _ (by omega)]
    by_cases e : i = pLn r.2.2
    · rw [e, upd_same, upd_same, nSet_same, ha]
      exact ⟨rfl, rfl⟩
    · rw [upd_ne _ _ e, upd_ne _ _ e, nSet_ne _ _ e]
      exact q6 i (by omega)
theorem RM.mach (R : RM th pn s X) (a : am) : RM th pn (pmM s a) (xsA X a) := by
  obtain ⟨sl, Ra, Rr, Rt⟩ := R
  refine ⟨sl, Ra.mach a, RMr_keep Rr rfl rfl rfl rfl rfl rfl rfl, Rt.keep (fun p h1 h2 => ?_) rfl rfl⟩
  show y1 (y1 (y1 (y1 (sA s) 1034 _) 1033 _) 1035 _) 1036 _ p = sA s p
  rw [y1_ne _ _ (by omega), y1_ne _ _ (by omega), y1_ne _ _ (by omega), y1_ne _ _ (by omega)]
theorem RM.st (R : RM th pn s X) (v : Nat) : RM th pn (tI s 2 (Int32.ofNat v)) (xsSt X v) := by
  obtain ⟨sl, Ra, Rr, Rt⟩ := R
  exact ⟨sl, Ra.st v, RMr_keep Rr rfl rfl rfl rfl rfl rfl rfl, Rt.keep (tmk.rf _) rfl rfl⟩
theorem RM.pnx (R : RM th pn s X) (v : Int32) : RM th v (tI s 19 v) X := by
  obtain ⟨sl, Ra, Rr, Rt⟩ := R
  exact ⟨sl, Ra.pnx v, RMr_keep Rr rfl rfl rfl rfl rfl rfl rfl, Rt.keep (tmk.rf _) rfl rfl⟩
theorem RM.heat (R : RM th pn s X) (i : Nat) (v : Int32) : RM th pn (tA s 1037 (upd (sA s 1037) i v)) (xsHe X (upd (xHe X) i v)) := by
  obtain ⟨sl, Ra, Rr, Rt⟩ := R
  exact ⟨sl, Ra.heat i v, RMr_keep Rr rfl rfl rfl rfl rfl rfl rfl, Rt.keep (tmk_A _ _ (by decide)) rfl rfl⟩
/-- whether a recording is on -/
theorem RM.on (R : RM th pn s X) : (sI s 42 < 0) = (xR X = none) := by
  obtain ⟨sl, Ra, Rr, Rt⟩ := R
  cases h : xR X with
  | none =>
    rw [h] at Rr
    rw [show sI s 42 = -1 from Rr]
    exact propext ⟨fun _ => rfl, fun _ => by decide⟩
  | some r =>
    rw [h] at Rr
    rw [Rr.2.1, n_neg (by have := Rr.1; omega)]
    exact propext ⟨fun z => z.elim, fun z => by cases z⟩
end PLM
