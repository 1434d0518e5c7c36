/-! what a run comes to, and the rules for it -/
def zGo (d y pc : Nat) (ls st : List Value) (h : zS) (K : zR → zS → Prop) : Prop := ∃ n r h', zrun n d y pc ls st h = some (r, h') ∧ K r h'
def zKv (F : zm → Prop) : zR → zS → Prop := fun r h => ∃ w, r = .inl none ∧ h = yz w ∧ F w
def zKi (F : Int32 → zm → Prop) : zR → zS → Prop := fun r h => ∃ v w, r = .inl (some (.int v)) ∧ h = yz w ∧ F v w
def zKl (F : Int64 → zm → Prop) : zR → zS → Prop := fun r h => ∃ v w, r = .inl (some (.long v)) ∧ h = yz w ∧ F v w
def zKr (F : Option Nat → zm → Prop) : zR → zS → Prop := fun r h => ∃ v w, r = .inl (some (va_rf v)) ∧ h = yz w ∧ F v w
def zTh (X : Nat → zm → Prop) : zR → zS → Prop := fun r h => ∃ E w, r = .inr E ∧ h = yz w ∧ X E w
def zXv (F : zm → Prop) (X : Nat → zm → Prop) : zR → zS → Prop := fun r h => zKv F r h ∨ zTh X r h
def zXi (F : Int32 → zm → Prop) (X : Nat → zm → Prop) : zR → zS → Prop := fun r h => zKi F r h ∨ zTh X r h
def zXl (F : Int64 → zm → Prop) (X : Nat → zm → Prop) : zR → zS → Prop := fun r h => zKl F r h ∨ zTh X r h
/-- an index that a row of n has -/
def zin (i : Int32) (n : Nat) : Prop := ¬ i < 0 ∧ i.toNatClampNeg < n
section ZGO
variable {d y pc pc' : Nat} {ls ls' st st' r : List Value} {h h' : zS} {w : zm} {K K' : zR → zS → Prop}
theorem zGo.mono (G : zGo d y pc ls st h K) (hk : ∀ r h, K r h → K' r h) : zGo d y pc ls st h K' := by
  obtain ⟨n, r, h', h1, h2⟩ := G
  exact ⟨n, r, h', h1, hk _ _ h2⟩
theorem g_s (hs : zstep y pc ls st h = some (pc', ls', st', h')) (G : zGo d y pc' ls' st' h' K) : zGo d y pc ls st h K := by
  obtain ⟨n, r, h', h1, h2⟩ := G
  refine ⟨n + 1, r, h', ?_, h2⟩
  rw [zrun, hs]
  exact h1
theorem zs_of {e : zI} (he : ztab y pc = some e) : zstep y pc ls st h = zstep1 e pc ls st h := by
  unfold zstep
  rw [he]
theorem zs_A {e : zI} (he : ztab y pc = some e) (hn : ∀ a b c d, e.1 ≠ .tableswitch a b c d) (hl : Nat.beq e.2.1 (zlen e.1) = true) : zstep y pc ls st h = zstepA e pc ls st h := by
  rw [zs_of he]
  unfold zstep1
  split
  · rename_i h9
    exact absurd h9 (hn _ _ _ _)
  · rw [hl]
    rfl
/-! pushes, locals -/
theorem g_psh {v v' : Value} (hs : zstep y pc ls st h = some (pc', ls, v :: st, h)) (hv : v = v') (G : zGo d y pc' ls (v' :: st) h K) : zGo d y pc ls st h K := by
  subst hv
  exact g_s hs G
theorem zisL_rf (o : Option Nat) : zisL (va_rf o) = false := by cases o <;> rfl
theorem g_aldo {k : Nat} {o : Option Nat} {e : zI} (he : ztab y pc = some e) (hs : zstepA e pc ls st h = z_ald k pc' ls st h) (hn : (match e.1 with | .tableswitch _ _ _ _ => false | _ => true) = true) (hl : Nat.beq e.2.1 (zlen e.1) = true) (hk : ls[k]? = some (va_rf o)) (G : zGo d y pc' ls (va_rf o :: st) h K) : zGo d y pc ls st h K := by
  refine g_s ?_ G
  rw [zs_A he (fun a b c d h9 => by rw [h9] at hn; cases hn) hl, hs]
  unfold z_ald
  rw [hk]
  cases o <;> rfl
theorem zst1_of {k : Nat} {v : Value} (hk : Nat.blt k ls.length = true) (hv : Nat.beq k 0 = true ∨ zisL (ls.getD (k - 1) zJ) = false) (hs : ls.set k v = ls') : zst1 ls k v = some ls' := by
  unfold zst1
  rw [hk]
  rcases hv with hv | hv
  · rw [hv, hs]; rfl
  · rw [hv, hs]
    cases Nat.beq k 0 <;> rfl
theorem zst2_of {k : Nat} {v : Value} (hk : Nat.blt (k + 1) ls.length = true) (hv : Nat.beq k 0 = true ∨ zisL (ls.getD (k - 1) zJ) = false) (hs : (ls.set k v).set (k + 1) zJ = ls') : zst2 ls k v = some ls' := by
  unfold zst2
  rw [hk]
  rcases hv with hv | hv
  · rw [hv, hs]; rfl
  · rw [hv, hs]
    cases Nat.beq k 0 <;> rfl
theorem g_ist {k : Nat} {x : Int32} {e : zI} (he : ztab y pc = some e) (hs : zstepA e pc ls (.int x :: st) h = z_ist k pc' ls (.int x :: st) h) (hn : (match e.1 with | .tableswitch _ _ _ _ => false | _ => true) = true) (hl : Nat.beq e.2.1 (zlen e.1) = true) (hk : zst1 ls k (.int x) = some ls') (G : zGo d y pc' ls' st h K) : zGo d y pc ls (.int x :: st) h K := by
  refine g_s ?_ G
  rw [zs_A he (fun a b c d h9 => by rw [h9] at hn; cases hn) hl, hs]
  unfold z_ist
  dsimp only
  rw [hk]
theorem g_lst {k : Nat} {x : Int64} {e : zI} (he : ztab y pc = some e) (hs : zstepA e pc ls (.long x :: st) h = z_lst k pc' ls (.long x :: st) h) (hn : (match e.1 with | .tableswitch _ _ _ _ => false | _ => true) = true) (hl : Nat.beq e.2.1 (zlen e.1) = true) (hk : zst2 ls k (.long x) = some ls') (G : zGo d y pc' ls' st h K) : zGo d y pc ls (.long x :: st) h K := by
  refine g_s ?_ G
  rw [zs_A he (fun a b c d h9 => by rw [h9] at hn; cases hn) hl, hs]
  unfold z_lst
  dsimp only
  rw [hk]
theorem g_ast {k : Nat} {o : Option Nat} {e : zI} (he : ztab y pc = some e) (hs : zstepA e pc ls (va_rf o :: st) h = z_ast k pc' ls (va_rf o :: st) h) (hn : (match e.1 with | .tableswitch _ _ _ _ => false | _ => true) = true) (hl : Nat.beq e.2.1 (zlen e.1) = true) (hk : zst1 ls k (va_rf o) = some ls') (G : zGo d y pc' ls' st h K) : zGo d y pc ls (va_rf o :: st) h K := by
  refine g_s ?_ G
  rw [zs_A he (fun a b c d h9 => by rw [h9] at hn; cases hn) hl, hs]
  unfold z_ast
  cases o with
  | none =>
    show (match zst1 ls k (va_rf none) with | some l => some (pc', l, st, h) | none => none) = _
    rw [hk]
  | some q =>
    show (match zst1 ls k (va_rf (some q)) with | some l => some (pc', l, st, h) | none => none) = _
    rw [hk]
theorem g_inc {k : Nat} {n : Int} {x m : Int32} {q : Nat × Nat × Nat × Nat} (he : ztab y pc = some (.iinc k n, 3, q)) (hp : pc + 3 = pc') (hl : ls[k]? = some (.int x)) (hm : Int32.ofInt n = m) (hk : zst1 ls k (.int (x + m)) = some ls') (G : zGo d y pc' ls' st h K) : zGo d y pc ls st h K := by
  subst hp hm
  refine g_s ?_ G
  rw [zs_of he]
  show z_inc k n (pc + 3) ls st h = _
  unfold z_inc
  rw [hl]
  dsimp only
  rw [hk]
/-! branches -/
theorem g_ifeq {x : Int32} {z : Int} {tg : Nat} {q : Nat × Nat × Nat} (he : ztab y pc = some (.ifCond .eq z, 3, tg, q)) (hp : pc + 3 = pc') (G1 : x = 0 → zGo d y tg ls r h K) (G2 : ¬ x = 0 → zGo d y pc' ls r h K) : zGo d y pc ls (.int x :: r) h K := by
  subst hp
  have e : zstep y pc ls (.int x :: r) h = if x = 0 then some (tg, ls, r, h) else some (pc + 3, ls, r, h) := by rw [zs_of he]; rfl
  by_cases c : x = 0
  · exact g_s (by rw [e, if_pos c]) (G1 c)
  · exact g_s (by rw [e, if_neg c]) (G2 c)
theorem g_ifne {x : Int32} {z : Int} {tg : Nat} {q : Nat × Nat × Nat} (he : ztab y pc = some (.ifCond .ne z, 3, tg, q)) (hp : pc + 3 = pc') (G1 : x = 0 → zGo d y pc' ls r h K) (G2 : ¬ x = 0 → zGo d y tg ls r h K) : zGo d y pc ls (.int x :: r) h K := by
  subst hp
  have e : zstep y pc ls (.int x :: r) h = if ¬ x = 0 then some (tg, ls, r, h) else some (pc + 3, ls, r, h) := by rw [zs_of he]; rfl
  by_cases c : x = 0
  · exact g_s (by rw [e, if_neg (fun k => k c)]) (G1 c)
  · exact g_s (by rw [e, if_pos c]) (G2 c)
theorem g_iflt {x : Int32} {z : Int} {tg : Nat} {q : Nat × Nat × Nat} (he : ztab y pc = some (.ifCond .lt z, 3, tg, q)) (hp : pc + 3 = pc') (G1 : x < 0 → zGo d y tg ls r h K) (G2 : ¬ x < 0 → zGo d y pc' ls r h K) : zGo d y pc ls (.int x :: r) h K := by
  subst hp
  have e : zstep y pc ls (.int x :: r) h = if x < 0 then some (tg, ls, r, h) else some (pc + 3, ls, r, h) := by rw [zs_of he]; rfl
  by_cases c : x < 0
  · exact g_s (by rw [e, if_pos c]) (G1 c)
  · exact g_s (by rw [e, if_neg c]) (G2 c)
theorem g_ifge {x : Int32} {z : Int} {tg : Nat} {q : Nat × Nat × Nat} (he : ztab y pc = some (.ifCond .ge z, 3, tg, q)) (hp : pc + 3 = pc') (G1 : x < 0 → zGo d y pc' ls r h K) (G2 : ¬ x < 0 → zGo d y tg ls r h K) : zGo d y pc ls (.int x :: r) h K := by
  subst hp
  have e : zstep y pc ls (.int x :: r) h = if 0 ≤ x then some (tg, ls, r, h) else some (pc + 3, ls, r, h) := by rw [zs_of he]; rfl
  by_cases c : x < 0
  · exact g_s (by rw [e, if_neg (fun k => absurd c (Int32.not_lt.mpr k))]) (G1 c)
  · exact g_s (by rw [e, if_pos (Int32.not_lt.mp c)]) (G2 c)
theorem g_ifgt {x : Int32} {z : Int} {tg : Nat} {q : Nat × Nat × Nat} (he : ztab y pc = some (.ifCond .gt z, 3, tg, q)) (hp : pc + 3 = pc') (G1 : 0 < x → zGo d y tg ls r h K) (G2 : ¬ 0 < x → zGo d y pc' ls r h K) : zGo d y pc ls (.int x :: r) h K := by
  subst hp
  have e : zstep y pc ls (.int x :: r) h = if 0 < x then some (tg, ls, r, h) else some (pc + 3, ls, r, h) := by rw [zs_of he]; rfl
  by_cases c : 0 < x
  · exact g_s (by rw [e, if_pos c]) (G1 c)
  · exact g_s (by rw [e, if_neg c]) (G2 c)
theorem g_ifle {x : Int32} {z : Int} {tg : Nat} {q : Nat × Nat × Nat} (he : ztab y pc = some (.ifCond .le z, 3, tg, q)) (hp : pc + 3 = pc') (G1 : 0 < x → zGo d y pc' ls r h K) (G2 : ¬ 0 < x → zGo d y tg ls r h K) : zGo d y pc ls (.int x :: r) h K := by
  subst hp
  have e : zstep y pc ls (.int x :: r) h = if x ≤ 0 then some (tg, ls, r, h) else some (pc + 3, ls, r, h) := by rw [zs_of he]; rfl
  by_cases c : 0 < x
  · exact g_s (by rw [e, if_neg (fun k => absurd c (Int32.not_lt.mpr k))]) (G1 c)
  · exact g_s (by rw [e, if_pos (Int32.not_lt.mp c)]) (G2 c)
theorem g_iceq {x v : Int32} {z : Int} {tg : Nat} {q : Nat × Nat × Nat} (he : ztab y pc = some (.if_icmp .eq z, 3, tg, q)) (hp : pc + 3 = pc') (G1 : x = v → zGo d y tg ls r h K) (G2 : ¬ x = v → zGo d y pc' ls r h K) : zGo d y pc ls (.int v :: .int x :: r) h K := by
  subst hp
  have e : zstep y pc ls (.int v :: .int x :: r) h = if x = v then some (tg, ls, r, h) else some (pc + 3, ls, r, h) := by rw [zs_of he]; rfl
  by_cases c : x = v
  · exact g_s (by rw [e, if_pos c]) (G1 c)
  · exact g_s (by rw [e, if_neg c]) (G2 c)
theorem g_icne {x v : Int32} {z : Int} {tg : Nat} {q : Nat × Nat × Nat} (he : ztab y pc = some (.if_icmp .ne z, 3, tg, q)) (hp : pc + 3 = pc') (G1 : x = v → zGo d y pc' ls r h K) (G2 : ¬ x = v → zGo d y tg ls r h K) : zGo d y pc ls (.int v :: .int x :: r) h K := by
  subst hp
  have e : zstep y pc ls (.int v :: .int x :: r) h = if ¬ x = v then some (tg, ls, r, h) else some (pc + 3, ls, r, h) := by rw [zs_of he]; rfl
  by_cases c : x = v
  · exact g_s (by rw [e, if_neg (fun k => k c)]) (G1 c)
  · exact g_s (by rw [e, if_pos c]) (G2 c)
theorem g_iclt {x v : Int32} {z : Int} {tg : Nat} {q : Nat × Nat × Nat} (he : ztab y pc = some (.if_icmp .lt z, 3, tg, q)) (hp : pc + 3 = pc') (G1 : x < v → zGo d y tg ls r h K) (G2 : ¬ x < v → zGo d y pc' ls r h K) : zGo d y pc ls (.int v :: .int x :: r) h K := by
  subst hp
  have e : zstep y pc ls (.int v :: .int x :: r) h = if x < v then some (tg, ls, r, h) else some (pc + 3, ls, r, h) := by rw [zs_of he]; rfl
  by_cases c : x < v
  · exact g_s (by rw [e, if_pos c]) (G1 c)
  · exact g_s (by rw [e, if_neg c]) (G2 c)
theorem g_icge {x v : Int32} {z : Int} {tg : Nat} {q : Nat × Nat × Nat} (he : ztab y pc = some (.if_icmp .ge z, 3, tg, q)) (hp : pc + 3 = pc') (G1 : x < v → zGo d y pc' ls r h K) (G2 : ¬ x < v → zGo d y tg ls r h K) : zGo d y pc ls (.int v :: .int x :: r) h K := by
  subst hp
  have e : zstep y pc ls (.int v :: .int x :: r) h = if v ≤ x then some (tg, ls, r, h) else some (pc + 3, ls, r, h) := by rw [zs_of he]; rfl
  by_cases c : x < v
  · exact g_s (by rw [e, if_neg (fun k => absurd c (Int32.not_lt.mpr k))]) (G1 c)
  · exact g_s (by rw [e, if_pos (Int32.not_lt.mp c)]) (G2 c)
theorem g_icgt {x v : Int32} {z : Int} {tg : Nat} {q : Nat × Nat × Nat} (he : ztab y pc = some (.if_icmp .gt z, 3, tg, q)) (hp : pc + 3 = pc') (G1 : v < x → zGo d y tg ls r h K) (G2 : ¬ v < x → zGo d y pc' ls r h K) : zGo d y pc ls (.int v :: .int x :: r) h K := by
  subst hp
  have e : zstep y pc ls (.int v :: .int x :: r) h = if v < x then some (tg, ls, r, h) else some (pc + 3, ls, r, h) := by rw [zs_of he]; rfl
  by_cases c : v < x
  · exact g_s (by rw [e, if_pos c]) (G1 c)
  · exact g_s (by rw [e, if_neg c]) (G2 c)
theorem g_icle {x v : Int32} {z : Int} {tg : Nat} {q : Nat × Nat × Nat} (he : ztab y pc = some (.if_icmp .le z, 3, tg, q)) (hp : pc + 3 = pc') (G1 : v < x → zGo d y pc' ls r h K) (G2 : ¬ v < x → zGo d y tg ls r h K) : zGo d y pc ls (.int v :: .int x :: r) h K := by
  subst hp
  have e : zstep y pc ls (.int v :: .int x :: r) h = if x ≤ v then some (tg, ls, r, h) else some (pc + 3, ls, r, h) := by rw [zs_of he]; rfl
  by_cases c : v < x
  · exact g_s (by rw [e, if_neg (fun k => absurd c (Int32.not_lt.mpr k))]) (G1 c)
  · exact g_s (by rw [e, if_pos (Int32.not_lt.mp c)]) (G2 c)
theorem g_tsw {x : Int32} {d0 lo hi : Int} {os : Array Int} {q : Nat × Nat × Nat × Nat × Nat} (he : ztab y pc = some (.tableswitch d0 lo hi os, q)) (G1 : x.toInt < lo ∨ hi < x.toInt → zGo d y ((pc : Int) + d0).toNat ls r h K) (G2 : ∀ j : Nat, x.toInt = lo + (j : Int) → ¬ hi < x.toInt → ∃ o, os[j]? = some o ∧ zGo d y ((pc : Int) + o).toNat ls r h K) : zGo d y pc ls (.int x :: r) h K := by
  have e : zstep y pc ls (.int x :: r) h = z_tsw d0 lo hi os pc ls (.int x :: r) h := by rw [zs_of he]; rfl
  by_cases c : x.toInt < lo ∨ hi < x.toInt
  · refine g_s ?_ (G1 c)
    rw [e]
    unfold z_tsw
    dsimp only
    rw [if_pos c]
  · obtain ⟨o, h1, h2⟩ := G2 (x.toInt - lo).toNat (by omega) (fun k => c (Or.inr k))
    refine g_s ?_ h2
    rw [e]
    unfold z_tsw
    dsimp only
    rw [if_neg c, h1]
theorem g_ifnull {o : Option Nat} {z : Int} {tg : Nat} {q : Nat × Nat × Nat} (he : ztab y pc = some (.ifnull z, 3, tg, q)) (hp : pc + 3 = pc') (G1 : o = none → zGo d y tg ls r h K) (G2 : ∀ q, o = some q → zGo d y pc' ls r h K) : zGo d y pc ls (va_rf o :: r) h K := by
  subst hp
  cases o with
  | none => exact g_s (by rw [zs_of he]; rfl) (G1 rfl)
  | some q9 => exact g_s (by rw [zs_of he]; rfl) (G2 q9 rfl)
theorem g_ifnonnull {o : Option Nat} {z : Int} {tg : Nat} {q : Nat × Nat × Nat} (he : ztab y pc = some (.ifnonnull z, 3, tg, q)) (hp : pc + 3 = pc') (G1 : o = none → zGo d y pc' ls r h K) (G2 : ∀ q, o = some q → zGo d y tg ls r h K) : zGo d y pc ls (va_rf o :: r) h K := by
  subst hp
  cases o with
  | none => exact g_s (by rw [zs_of he]; rfl) (G1 rfl)
  | some q9 => exact g_s (by rw [zs_of he]; rfl) (G2 q9 rfl)
theorem g_div {x v : Int32} {f : Int32 → Int32 → Int32} {e : zI} (he : ztab y pc = some e) (hs : zstepA e pc ls (.int v :: .int x :: r) h = z_dv f pc' ls (.int v :: .int x :: r) h) (hn : (match e.1 with | .tableswitch _ _ _ _ => false | _ => true) = true) (hl : Nat.beq e.2.1 (zlen e.1) = true) (hv : ¬ v = 0) (G : zGo d y pc' ls (.int (f x v) :: r) h K) : zGo d y pc ls (.int v :: .int x :: r) h K := by
  refine g_s ?_ G
  rw [zs_A he (fun a b c d h9 => by rw [h9] at hn; cases hn) hl, hs]
  unfold z_dv
  dsimp only
  rw [if_neg hv]
/-! fields -/
theorem g_getf {i a b k q p : Nat} {v : Value} (he : ztab y pc = some (.getfield i, 3, a, b, k, q)) (hp : pc + 3 = pc') (hk : yk w p = some (.inl a)) (hb : Nat.blt b (zcl a).2.2 = true) (hv : yfld (zty a b) w p b = v) (G : zGo d y pc' ls (v :: r) (yz w) K) : zGo d y pc ls (.ref p :: r) (yz w) K := by
  subst hp hv
  refine g_s ?_ G
  rw [zs_of he]
  show z_getf a b (pc + 3) ls (.ref p :: r) (yz w) = _
  have e1 : (yz w).2.2 p = some (.inr (a, yfs a w p)) := yg_obj hk
  unfold z_getf
  dsimp only
  rw [e1]
  dsimp only
  rw [Nat.beq_refl a, yfs_at hb]
  rfl
theorem zputf {i a b k q p : Nat} {v : Value} (he : ztab y pc = some (.putfield i, 3, a, b, k, q)) (hk : yk w p = some (.inl a)) (hb : Nat.blt b (zcl a).2.2 = true) (h1 : Nat.ble 1000 p = true) (hf : zfit (zty a b) v = true) : zstep y pc ls (v :: .ref p :: r) (yz w) = some (pc + 3, ls, r, zput (yz w) p (.inr (a, (yfs a w p).set b v))) := by
  rw [zs_of he]
  show z_putf a b (pc + 3) ls (v :: .ref p :: r) (yz w) = _
  have e1 : (yz w).2.2 p = some (.inr (a, yfs a w p)) := yg_obj hk
  unfold z_putf
  dsimp only
  rw [e1]
  dsimp only
  rw [Nat.beq_refl a, yfs_len, hb, h1, hf]
  rfl
theorem g_putI {i a b k q p : Nat} {v : Int32} (he : ztab y pc = some (.putfield i, 3, a, b, k, q)) (hp : pc + 3 = pc') (hk : yk w p = some (.inl a)) (hb : Nat.blt b (zcl a).2.2 = true) (h1 : Nat.ble 1000 p = true) (hf : zfit (zty a b) (.int v) = true) (ht : ∀ w', yfld (zty a b) w' p b = .int (yI w' p b)) (G : zGo d y pc' ls r (yz (yuI w p b v)) K) : zGo d y pc ls (.int v :: .ref p :: r) (yz w) K := by
  subst hp
  exact g_s (by rw [zputf he hk hb h1 hf, yputI hk ht]) G
theorem g_putL {i a b k q p : Nat} {v : Int64} (he : ztab y pc = some (.putfield i, 3, a, b, k, q)) (hp : pc + 3 = pc') (hk : yk w p = some (.inl a)) (hb : Nat.blt b (zcl a).2.2 = true) (h1 : Nat.ble 1000 p = true) (hf : zfit (zty a b) (.long v) = true) (ht : ∀ w', yfld (zty a b) w' p b = .long (yL w' p b)) (G : zGo d y pc' ls r (yz (yuL w p b v)) K) : zGo d y pc ls (.long v :: .ref p :: r) (yz w) K := by
  subst hp
  exact g_s (by rw [zputf he hk hb h1 hf, yputL hk ht]) G
theorem g_putF {i a b k q p v : Nat} (he : ztab y pc = some (.putfield i, 3, a, b, k, q)) (hp : pc + 3 = pc') (hk : yk w p = some (.inl a)) (hb : Nat.blt b (zcl a).2.2 = true) (h1 : Nat.ble 1000 p = true) (hx : yfix p = false) (hf : zfit (zty a b) (.ref v) = true) (ht : ∀ w', yfld (zty a b) w' p b = va_rf (yR w' p b)) (G : zGo d y pc' ls r (yz (yuF w p b (some v))) K) : zGo d y pc ls (.ref v :: .ref p :: r) (yz w) K := by
  subst hp
  exact g_s (by rw [zputf he hk hb h1 hf]; exact congrArg (fun z => some (pc + 3, ls, r, z)) (yputF (v := some v) hk hx ht)) G
/-! rows -/
theorem zin_not {i : Int32} {n : Nat} (h : zin i n) : ¬ (i < 0 ∨ n ≤ i.toNatClampNeg) := by
  obtain ⟨h1, h2⟩ := h
  intro k
  rcases k with k | k
  · exact h1 k
  · omega
theorem g_iald {e : zI} {i : Int32} {p t n : Nat} (he : ztab y pc = some e) (hs : e.1 = .iaload) (hl : e.2.1 = 1) (hp : pc + 1 = pc') (hk : yk w p = some (.inr (t, n))) (ht : t = 0 ∨ t = 9) (hi : zin i n) (G : zGo d y pc' ls (.int (yA w p i.toNatClampNeg) :: r) (yz w) K) : zGo d y pc ls (.int i :: .ref p :: r) (yz w) K := by
  subst hp
  obtain ⟨e1, e2, e3⟩ := e
  dsimp only at hs hl
  subst hs hl
  refine g_s ?_ G
  rw [zs_of he]
  show z_iald (pc + 1) ls (.int i :: .ref p :: r) (yz w) = _
  have e1 : (yz w).2.2 p = some (.inl (t, n, .inl (yA w p))) := by
    show yg w p = _
    rw [yg_row hk]
    rcases ht with rfl | rfl <;> rfl
  unfold z_iald
  dsimp only
  rw [e1]
  dsimp only
  rw [if_neg (by
    intro k
    rcases k with k | k
    · exact k ht
    · exact zin_not hi k)]
theorem g_zald {e : zI} {i : Int32} {p n : Nat} (he : ztab y pc = some e) (hs : e.1 = .baload) (hl : e.2.1 = 1) (hp : pc + 1 = pc') (hk : yk w p = some (.inr (2, n))) (hi : zin i n) (G : zGo d y pc' ls (.int (yA w p i.toNatClampNeg) :: r) (yz w) K) : zGo d y pc ls (.int i :: .ref p :: r) (yz w) K := by
  subst hp
  obtain ⟨e1, e2, e3⟩ := e
  dsimp only at hs hl
  subst hs hl
  refine g_s ?_ G
  rw [zs_of he]
  show z_zald (pc + 1) ls (.int i :: .ref p :: r) (yz w) = _
  have e1 : (yz w).2.2 p = some (.inl (2, n, .inl (yA w p))) := yg_row hk
  unfold z_zald
  dsimp only
  rw [e1]
  dsimp only
  rw [if_neg (by
    intro k
    rcases k with k | k
    · exact k rfl
    · exact zin_not hi k)]
theorem g_lald {e : zI} {i : Int32} {p n : Nat} (he : ztab y pc = some e) (hs : e.1 = .laload) (hl : e.2.1 = 1) (hp : pc + 1 = pc') (hk : yk w p = some (.inr (1, n))) (hi : zin i n) (G : zGo d y pc' ls (.long (yB w p i.toNatClampNeg) :: r) (yz w) K) : zGo d y pc ls (.int i :: .ref p :: r) (yz w) K := by
  subst hp
  obtain ⟨e1, e2, e3⟩ := e
  dsimp only at hs hl
  subst hs hl
  refine g_s ?_ G
  rw [zs_of he]
  show z_lald (pc + 1) ls (.int i :: .ref p :: r) (yz w) = _
  have e1 : (yz w).2.2 p = some (.inl (1, n, .inr (.inl (yB w p)))) := yg_row hk
  unfold z_lald
  dsimp only
  rw [e1]
  dsimp only
  rw [if_neg (by
    intro k
    rcases k with k | k
    · exact k rfl
    · exact zin_not hi k)]
theorem g_aald {e : zI} {i : Int32} {p t n : Nat} (he : ztab y pc = some e) (hs : e.1 = .aaload) (hl : e.2.1 = 1) (hp : pc + 1 = pc') (hk : yk w p = some (.inr (t, n))) (ht : t = 3 ∨ t = 4) (hi : zin i n) (G : ∀ o, yQ w p i.toNatClampNeg = o → zGo d y pc' ls (va_rf o :: r) (yz w) K) : zGo d y pc ls (.int i :: .ref p :: r) (yz w) K := by
  subst hp
  obtain ⟨e1, e2, e3⟩ := e
  dsimp only at hs hl
  subst hs hl
  refine g_s ?_ (G _ rfl)
  rw [zs_of he]
  show z_aald (pc + 1) ls (.int i :: .ref p :: r) (yz w) = _
  have e1 : (yz w).2.2 p = some (.inl (t, n, .inr (.inr (.inr (.inr (yQ w p)))))) := by
    show yg w p = _
    rw [yg_row hk]
    rcases ht with rfl | rfl <;> rfl
  unfold z_aald
  dsimp only
  rw [e1]
  dsimp only
  rw [if_neg (by
    intro k
    rcases k with k | k
    · exact k ht
    · exact zin_not hi k)]
theorem zin_st {i : Int32} {n p : Nat} {P : Prop} (h : zin i n) (hp : Nat.ble 1000 p = true) (hP : P) : ¬ (¬ P ∨ p < 1000 ∨ i < 0 ∨ n ≤ i.toNatClampNeg) := by
  intro k
  rcases k with k | k | k
  · exact k hP
  · have := Nat.le_of_ble_eq_true hp
    omega
  · exact zin_not h k
theorem g_iast {e : zI} {i x : Int32} {p n : Nat} (he : ztab y pc = some e) (hs : e.1 = .iastore) (hl : e.2.1 = 1) (hp : pc + 1 = pc') (hk : yk w p = some (.inr (0, n))) (h1 : Nat.ble 1000 p = true) (hi : zin i n) (G : zGo d y pc' ls r (yz (yuA w p i.toNatClampNeg x)) K) : zGo d y pc ls (.int x :: .int i :: .ref p :: r) (yz w) K := by
  subst hp
  obtain ⟨e1, e2, e3⟩ := e
  dsimp only at hs hl
  subst hs hl
  refine g_s ?_ G
  rw [zs_of he]
  show z_iast (pc + 1) ls (.int x :: .int i :: .ref p :: r) (yz w) = _
  have e1 : (yz w).2.2 p = some (.inl (0, n, .inl (yA w p))) := yg_row hk
  unfold z_iast
  dsimp only
  rw [e1]
  dsimp only
  rw [if_neg (zin_st hi h1 rfl)]
  exact congrArg (fun z => some (pc + 1, ls, r, z)) (yputR hk (Or.inl rfl))
theorem g_zast {e : zI} {i x : Int32} {p n : Nat} (he : ztab y pc = some e) (hs : e.1 = .bastore) (hl : e.2.1 = 1) (hp : pc + 1 = pc') (hk : yk w p = some (.inr (2, n))) (h1 : Nat.ble 1000 p = true) (hi : zin i n) {x' : Int32} (hx : vp_nar .boolean x = x') (G : zGo d y pc' ls r (yz (yuA w p i.toNatClampNeg x')) K) : zGo d y pc ls (.int x :: .int i :: .ref p :: r) (yz w) K := by
  subst hp hx
  obtain ⟨e1, e2, e3⟩ := e
  dsimp only at hs hl
  subst hs hl
  refine g_s ?_ G
  rw [zs_of he]
  show z_zast (pc + 1) ls (.int x :: .int i :: .ref p :: r) (yz w) = _
  have e1 : (yz w).2.2 p = some (.inl (2, n, .inl (yA w p))) := yg_row hk
  unfold z_zast
  dsimp only
  rw [e1]
  dsimp only
  rw [if_neg (zin_st hi h1 rfl)]
  exact congrArg (fun z => some (pc + 1, ls, r, z)) (yputR hk (Or.inr rfl))
theorem g_last {e : zI} {i : Int32} {x : Int64} {p n : Nat} (he : ztab y pc = some e) (hs : e.1 = .lastore) (hl : e.2.1 = 1) (hp : pc + 1 = pc') (hk : yk w p = some (.inr (1, n))) (h1 : Nat.ble 1000 p = true) (hi : zin i n) (G : zGo d y pc' ls r (yz (yuB w p i.toNatClampNeg x)) K) : zGo d y pc ls (.long x :: .int i :: .ref p :: r) (yz w) K := by
  subst hp
  obtain ⟨e1, e2, e3⟩ := e
  dsimp only at hs hl
  subst hs hl
  refine g_s ?_ G
  rw [zs_of he]
  show z_last (pc + 1) ls (.long x :: .int i :: .ref p :: r) (yz w) = _
  have e1 : (yz w).2.2 p = some (.inl (1, n, .inr (.inl (yB w p)))) := yg_row hk
  unfold z_last
  dsimp only
  rw [e1]
  dsimp only
  rw [if_neg (zin_st hi h1 rfl)]
  exact congrArg (fun z => some (pc + 1, ls, r, z)) (yputB hk)
theorem g_aast {e : zI} {i : Int32} {p q t n c : Nat} (he : ztab y pc = some e) (hs : e.1 = .aastore) (hl : e.2.1 = 1) (hp : pc + 1 = pc') (hk : yk w p = some (.inr (t, n))) (ht : t = 3 ∨ t = 4) (hc : yk w q = some (.inl c)) (hz : c = zac t) (h1 : Nat.ble 1000 p = true) (hi : zin i n) (G : zGo d y pc' ls r (yz (yuQ w p i.toNatClampNeg (some q))) K) : zGo d y pc ls (.ref q :: .int i :: .ref p :: r) (yz w) K := by
  subst hp
  obtain ⟨e1, e2, e3⟩ := e
  dsimp only at hs hl
  subst hs hl
  refine g_s ?_ G
  rw [zs_of he]
  show z_aast (pc + 1) ls (.ref q :: .int i :: .ref p :: r) (yz w) = _
  have e1 : (yz w).2.2 p = some (.inl (t, n, .inr (.inr (.inr (.inr (yQ w p)))))) := by
    show yg w p = _
    rw [yg_row hk]
    rcases ht with rfl | rfl <;> rfl
  have e2 : (yz w).2.2 q = some (.inr (c, yfs c w q)) := yg_obj hc
  unfold z_aast
  dsimp only
  rw [e1]
  dsimp only
  rw [e2]
  dsimp only
  rw [if_neg (by
    intro k
    rcases k with k | k | k
    · exact k ht
    · exact k hz
    · exact zin_st (P := True) hi h1 trivial (Or.inr k))]
  exact congrArg (fun z => some (pc + 1, ls, r, z)) (yputQ hk ht)
theorem g_aastn {e : zI} {i : Int32} {p t n : Nat} (he : ztab y pc = some e) (hs : e.1 = .aastore) (hl : e.2.1 = 1) (hp : pc + 1 = pc') (hk : yk w p = some (.inr (t, n))) (ht : t = 3 ∨ t = 4) (h1 : Nat.ble 1000 p = true) (hi : zin i n) (G : zGo d y pc' ls r (yz (yuQ w p i.toNatClampNeg none)) K) : zGo d y pc ls (.null :: .int i :: .ref p :: r) (yz w) K := by
  subst hp
  obtain ⟨e1, e2, e3⟩ := e
  dsimp only at hs hl
  subst hs hl
  refine g_s ?_ G
  rw [zs_of he]
  show z_aast (pc + 1) ls (.null :: .int i :: .ref p :: r) (yz w) = _
  have e1 : (yz w).2.2 p = some (.inl (t, n, .inr (.inr (.inr (.inr (yQ w p)))))) := by
    show yg w p = _
    rw [yg_row hk]
    rcases ht with rfl | rfl <;> rfl
  unfold z_aast
  dsimp only
  rw [e1]
  dsimp only
  rw [if_neg (zin_st (P := t = 3 ∨ t = 4) hi h1 ht)]
  exact congrArg (fun z => some (pc + 1, ls, r, z)) (yputQ hk ht)
theorem g_alen {e : zI} {p t n : Nat} (he : ztab y pc = some e) (hs : e.1 = .arraylength) (hl : e.2.1 = 1) (hp : pc + 1 = pc') (hk : yk w p = some (.inr (t, n))) {v : Int32} (hv : Int32.ofNat n = v) (G : zGo d y pc' ls (.int v :: r) (yz w) K) : zGo d y pc ls (.ref p :: r) (yz w) K := by
  subst hp hv
  obtain ⟨e1, e2, e3⟩ := e
  dsimp only at hs hl
  subst hs hl
  refine g_s ?_ G
  rw [zs_of he]
  show z_alen (pc + 1) ls (.ref p :: r) (yz w) = _
  have e1 : ∃ z, (yz w).2.2 p = some (.inl (t, n, z)) := by
    refine ⟨(yrow t n w p).2, ?_⟩
    show yg w p = _
    rw [yg_row hk]
    unfold yrow
    cases Nat.beq t 1 <;> cases (Nat.beq t 3 || Nat.beq t 4) <;> rfl
  obtain ⟨z, e1⟩ := e1
  unfold z_alen
  dsimp only
  rw [e1]
theorem g_cpy {i a b q0 : Nat} {n dp sp : Int32} {p q np nq : Nat} (he : ztab y pc = some (.invokestatic i, 3, a, b, 3, q0)) (hp : pc + 3 = pc') (hk : yk w p = some (.inr (0, np))) (hq : yk w q = some (.inr (0, nq))) (hne : p ≠ q) (h1 : Nat.ble 1000 p = true) (h2 : Nat.ble 1000 q = true) (h3 : ¬ sp < 0) (h4 : ¬ dp < 0) (h5 : ¬ n < 0) (h6 : sp.toNatClampNeg + n.toNatClampNeg ≤ np) (h7 : dp.toNatClampNeg + n.toNatClampNeg ≤ nq) (hr : Nat.ble r.length 1 = true) (G : zGo d y pc' ls r (yz (yuR w q (va_cpy (yA w p) (yA w q) sp.toNatClampNeg dp.toNatClampNeg n.toNatClampNeg))) K) : zGo d y pc ls (.int n :: .int dp :: .ref q :: .int sp :: .ref p :: r) (yz w) K := by
  subst hp
  refine g_s ?_ G
  rw [zs_of he]
  show z_cpy (pc + 3) ls (.int n :: .int dp :: .ref q :: .int sp :: .ref p :: r) (yz w) = _
  have e1 : (yz w).2.2 p = some (.inl (0, np, .inl (yA w p))) := yg_row hk
  have e2 : (yz w).2.2 q = some (.inl (0, nq, .inl (yA w q))) := yg_row hq
  have k1 := Nat.le_of_ble_eq_true h1
  have k2 := Nat.le_of_ble_eq_true h2
  have k3 := Nat.le_of_ble_eq_true hr
  unfold z_cpy
  dsimp only
  rw [e1, e2]
  dsimp only
  rw [if_neg (by
    intro k
    rcases k with k | k | k | k | k | k | k | k | k | k | k
    · exact k rfl
    · exact k rfl
    · exact hne k
    · exact absurd k (Nat.not_lt.mpr k2)
    · exact absurd k (Nat.not_lt.mpr k1)
    · exact h3 k
    · exact h4 k
    · exact h5 k
    · omega
    · omega
    · omega)]
  exact congrArg (fun z => some (pc + 3, ls, r, z)) (yputR hq (Or.inl rfl))
theorem g_min {i a b q0 : Nat} {u v : Int32} (he : ztab y pc = some (.invokestatic i, 3, a, b, 4, q0)) (hp : pc + 3 = pc') (hr : Nat.ble r.length 4 = true) (G : zGo d y pc' ls (.int (if v < u then v else u) :: r) h K) : zGo d y pc ls (.int v :: .int u :: r) h K := by
  subst hp
  refine g_s ?_ G
  rw [zs_of he]
  show z_min (pc + 3) ls (.int v :: .int u :: r) h = _
  unfold z_min
  dsimp only
  rw [hr]
  rfl
theorem g_newc {i a b q0 : Nat} (he : ztab y pc = some (.new i, 3, a, b, 0, q0)) (hp : pc + 3 = pc') (hx : yfix (ySz w) = false) (G : zGo d y pc' ls (.ref (ySz w) :: st) (yz (yuN w b (.inl a))) K) : zGo d y pc ls st (yz w) K := by
  subst hp
  refine g_s ?_ G
  rw [zs_of he]
  show z_newc a b (pc + 3) ls st (yz w) = _
  unfold z_newc
  rw [ynew (k := .inl a) hx rfl]
  rfl
theorem g_newa {e : Instr} {a : Nat} {q0 : Nat × Nat × Nat} {n : Int32} {t : _} (he : ztab y pc = some (e, 2, a, q0)) (hs : e = .newarray t) (hp : pc + 2 = pc') (ha : a = 0 ∨ a = 1 ∨ a = 2) (hx : yfix (ySz w) = false) (h1 : ¬ n < 0) (h2 : n.toNatClampNeg ≤ 100000) (G : zGo d y pc' ls (.ref (ySz w) :: r) (yz (yuN w n.toNatClampNeg (.inr (a, n.toNatClampNeg)))) K) : zGo d y pc ls (.int n :: r) (yz w) K := by
  subst hp hs
  refine g_s ?_ G
  rw [zs_of he]
  show z_newa a (pc + 2) ls (.int n :: r) (yz w) = _
  unfold z_newa
  dsimp only
  rw [if_neg (by
    intro k
    rcases k with k | k
    · exact h1 k
    · omega)]
  rw [ynew (k := .inr (a, n.toNatClampNeg)) hx (by rcases ha with rfl | rfl | rfl <;> rfl)]
  rfl
theorem g_newq {i a : Nat} {q0 : Nat × Nat × Nat} {n : Int32} (he : ztab y pc = some (.anewarray i, 3, a, q0)) (hp : pc + 3 = pc') (ha : a = 3 ∨ a = 4) (hx : yfix (ySz w) = false) (h1 : ¬ n < 0) (h2 : n.toNatClampNeg ≤ 100000) (G : zGo d y pc' ls (.ref (ySz w) :: r) (yz (yuN w n.toNatClampNeg (.inr (a, n.toNatClampNeg)))) K) : zGo d y pc ls (.int n :: r) (yz w) K := by
  subst hp
  refine g_s ?_ G
  rw [zs_of he]
  show z_newq a (pc + 3) ls (.int n :: r) (yz w) = _
  unfold z_newq
  dsimp only
  rw [if_neg (by
    intro k
    rcases k with k | k
    · exact h1 k
    · omega)]
  rw [ynew (k := .inr (a, n.toNatClampNeg)) hx (by rcases ha with rfl | rfl <;> rfl)]
  rfl
/-! returns and throws -/
theorem g_end {v : zR} (hs : zstep y pc ls st h = none) (he : zend d y pc st h = some (v, h')) (k : K v h') : zGo d y pc ls st h K := by
  refine ⟨1, v, h', ?_, k⟩
  rw [zrun, hs]
  dsimp only
  rw [he]
theorem g_retv {F : zm → Prop} {q : Nat × Nat × Nat × Nat} (he : ztab y pc = some (.return_, 1, q)) (hf : zfitR (zrt y) none = true) (k : F w) : zGo d y pc ls [] (yz w) (zKv F) := by
  refine g_end (by rw [zs_of he]; rfl) (v := .inl none) (h' := yz w) ?_ ⟨w, rfl, rfl, k⟩
  unfold zend
  rw [he]
  show (bif zfitR (zrt y) none then some (Sum.inl none, yz w) else none) = _
  rw [hf]
  rfl
theorem g_reti {F : Int32 → zm → Prop} {x : Int32} {q : Nat × Nat × Nat × Nat} (he : ztab y pc = some (.ireturn, 1, q)) (hf : zfitR (zrt y) (some (.int x)) = true) (k : F x w) : zGo d y pc ls [.int x] (yz w) (zKi F) := by
  refine g_end (by rw [zs_of he]; rfl) (v := .inl (some (.int x))) (h' := yz w) ?_ ⟨x, w, rfl, rfl, k⟩
  unfold zend
  rw [he]
  show (bif zfitR (zrt y) (some (.int x)) then some (Sum.inl (some (Value.int x)), yz w) else none) = _
  rw [hf]
  rfl
theorem g_retl {F : Int64 → zm → Prop} {x : Int64} {q : Nat × Nat × Nat × Nat} (he : ztab y pc = some (.lreturn, 1, q)) (hf : zfitR (zrt y) (some (.long x)) = true) (k : F x w) : zGo d y pc ls [.long x] (yz w) (zKl F) := by
  refine g_end (by rw [zs_of he]; rfl) (v := .inl (some (.long x))) (h' := yz w) ?_ ⟨x, w, rfl, rfl, k⟩
  unfold zend
  rw [he]
  show (bif zfitR (zrt y) (some (.long x)) then some (Sum.inl (some (Value.long x)), yz w) else none) = _
  rw [hf]
  rfl
theorem g_retr {F : Option Nat → zm → Prop} {x : Option Nat} {q : Nat × Nat × Nat × Nat} (he : ztab y pc = some (.areturn, 1, q)) (hf : zfitR (zrt y) (some (va_rf x)) = true) (k : F x w) : zGo d y pc ls [va_rf x] (yz w) (zKr F) := by
  refine g_end (by rw [zs_of he]; rfl) (v := .inl (some (va_rf x))) (h' := yz w) ?_ ⟨x, w, rfl, rfl, k⟩
  unfold zend
  rw [he]
  have hz9 : zretv .areturn [va_rf x] = some (some (va_rf x)) := by cases x <;> rfl
  show (match zretv .areturn [va_rf x] with | some v => bif zfitR (zrt y) v then some (Sum.inl v, yz w) else none | none => none) = _
  rw [hz9]
  show (bif zfitR (zrt y) (some (va_rf x)) then some (Sum.inl (some (va_rf x)), yz w) else none) = _
  rw [hf]
  rfl
theorem g_xretv {F : zm → Prop} {X : Nat → zm → Prop} {q : Nat × Nat × Nat × Nat} (he : ztab y pc = some (.return_, 1, q)) (hf : zfitR (zrt y) none = true) (k : F w) : zGo d y pc ls [] (yz w) (zXv F X) :=
  (g_retv he hf k).mono (fun _ _ => Or.inl)
theorem g_xreti {F : Int32 → zm → Prop} {X : Nat → zm → Prop} {x : Int32} {q : Nat × Nat × Nat × Nat} (he : ztab y pc = some (.ireturn, 1, q)) (hf : zfitR (zrt y) (some (.int x)) = true) (k : F x w) : zGo d y pc ls [.int x] (yz w) (zXi F X) :=
  (g_reti he hf k).mono (fun _ _ => Or.inl)
theorem g_xretl {F : Int64 → zm → Prop} {X : Nat → zm → Prop} {x : Int64} {q : Nat × Nat × Nat × Nat} (he : ztab y pc = some (.lreturn, 1, q)) (hf : zfitR (zrt y) (some (.long x)) = true) (k : F x w) : zGo d y pc ls [.long x] (yz w) (zXl F X) :=
  (g_retl he hf k).mono (fun _ _ => Or.inl)
theorem g_throw {X : Nat → zm → Prop} {i a b q : Nat} (he : ztab y pc = some (.new i, 3, a, b, 3, q)) (h6 : Nat.ble 6 d = true) (hst : Nat.ble st.length 4 = true) (hK : ∀ E w, X E w → K (.inr E) (yz w)) (k : X a (yuX w)) : zGo d y pc ls st (yz w) K := by
  refine g_end (by rw [zs_of he]; rfl) (v := .inr a) (h' := yz (yuX w)) ?_ (hK _ _ k)
  unfold zend
  rw [he]
  show (bif (Nat.ble 6 d && Nat.ble st.length 4) then some (Sum.inr a, ySz w + 1, ySl w + 6, yg w) else none) = _
  rw [h6, hst]
  rfl
theorem zbool (x : Int32) (h : x = 0 ∨ x = 1) : zfitR (some .boolean) (some (.int x)) = true := by
  rcases h with rfl | rfl <;> decide
theorem zfitr (o : Option Nat) {t : FieldType} (h : (match t with | .object _ => true | .array _ => true | _ => false) = true) : zfitR (some t) (some (va_rf o)) = true := by
  cases t <;> first
    | cases h; done
    | (cases o <;> rfl)
theorem zfitb (x : Int32) (h : x = 0 ∨ x = 1) : zfit .boolean (.int x) = true := by
  rcases h with rfl | rfl <;> decide
/-! calls -/
def zTri (y pc : Nat) (st : List Value) (h : zS) (a : Nat) (as rest : List Value) : Prop := (∀ ls, zstep y pc ls st h = none) ∧ (∀ d, zend d y pc st h = none) ∧ zcall y pc st h = some (a, as, rest)
theorem t_virt {i a b q p : Nat} {A : List Value} (he : ztab y pc = some (.invokevirtual i, 3, a, b, 0, q)) (hd : st.drop b = .ref p :: r) (ht : (st.take b).reverse = A) (hb : Nat.beq (st.take b).length b = true) (hr : Nat.ble r.length 4 = true) (hk : yk w p = some (.inl (zci a))) : zTri y pc st (yz w) a (.ref p :: A) r := by
  refine ⟨fun ls => by rw [zs_of he]; rfl, fun d => by unfold zend; rw [he]; rfl, ?_⟩
  have e1 : (yz w).2.2 p = some (.inr (zci a, yfs (zci a) w p)) := yg_obj hk
  unfold zcall
  rw [he]
  show (match st.drop b with
    | .ref p :: r => (match (yz w).2.2 p with
      | some (.inr (ci, _)) => bif (Nat.beq ci (zci a) && Nat.ble r.length 4 && Nat.beq (st.take b).length b) then some (a, Value.ref p :: (st.take b).reverse, r) else none
      | _ => none)
    | _ => none) = _
  rw [hd]
  dsimp only
  rw [e1]
  dsimp only
  rw [Nat.beq_refl (zci a), hr, hb, ht]
  rfl
theorem t_stat {i a b k q : Nat} {A : List Value} (he : ztab y pc = some (.invokestatic i, 3, a, b, k, q)) (hk : k = 0 ∨ k = 1) (hd : st.drop b = r) (ht : (st.take b).reverse = A) (hb : Nat.beq (st.take b).length b = true) (hr : Nat.ble r.length 4 = true) : zTri y pc st h a A r := by
  subst hd ht
  rcases hk with rfl | rfl
  · refine ⟨fun ls => by rw [zs_of he]; rfl, fun d => by unfold zend; rw [he]; rfl, ?_⟩
    unfold zcall
    rw [he]
    show (bif (Nat.ble (st.drop b).length 4 && Nat.beq (st.take b).length b) then some (a, (st.take b).reverse, st.drop b) else none) = _
    rw [hr, hb]
    rfl
  · refine ⟨fun ls => by rw [zs_of he]; rfl, fun d => by unfold zend; rw [he]; rfl, ?_⟩
    unfold zcall
    rw [he]
    show (bif (Nat.ble (st.drop b).length 4 && Nat.beq (st.take b).length b) then some (a, (st.take b).reverse, st.drop b) else none) = _
    rw [hr, hb]
    rfl
theorem t_spec {i a b k q p : Nat} {A : List Value} (he : ztab y pc = some (.invokespecial i, 3, a, b, k, q)) (hk : k = 0 ∨ k = 1) (hd : st.drop b = .ref p :: r) (ht : (st.take b).reverse = A) (hb : Nat.beq (st.take b).length b = true) (hr : Nat.ble r.length 4 = true) : zTri y pc st h a (.ref p :: A) r := by
  subst ht
  rcases hk with rfl | rfl
  · refine ⟨fun ls => by rw [zs_of he]; rfl, fun d => by unfold zend; rw [he]; rfl, ?_⟩
    unfold zcall
    rw [he]
    show (match st.drop b with
      | .ref p :: r => bif (Nat.ble r.length 4 && Nat.beq (st.take b).length b) then some (a, Value.ref p :: (st.take b).reverse, r) else none
      | _ => none) = _
    rw [hd]
    dsimp only
    rw [hr, hb]
    rfl
  · refine ⟨fun ls => by rw [zs_of he]; rfl, fun d => by unfold zend; rw [he]; rfl, ?_⟩
    unfold zcall
    rw [he]
    show (match st.drop b with
      | .ref p :: r => bif (Nat.ble r.length 4 && Nat.beq (st.take b).length b) then some (a, Value.ref p :: (st.take b).reverse, r) else none
      | _ => none) = _
    rw [hd]
    dsimp only
    rw [hr, hb]
    rfl
theorem g_call {a : Nat} {as rest ls0 : List Value} (T : zTri y pc st h a as rest) (hl : Nat.ble (zexp as).length (zml a) = true) (hz : zent a as = ls0) (G : zGo d a 0 ls0 [] h (fun v h1 => (∃ u, v = .inl u ∧ zGo (d + 1) y (pc + 3) ls (u.toList ++ rest) h1 K) ∨ ∃ E k l, v = .inr E ∧ Nat.beq (zkd a) 0 = true ∧ zhnd y pc E = some k ∧ zst1 ls k.1 zJ = some l ∧ zGo (d + 1) y k.2 l [] h1 K)) : zGo (d + 1) y pc ls st h K := by
  subst hz
  obtain ⟨h1, h2, h3⟩ := T
  obtain ⟨n, v, hv, e1, e2⟩ := G
  rcases e2 with ⟨u, rfl, m, v2, h4, e3, e4⟩ | ⟨E, k, l, rfl, e5, e6, e7, m, v2, h4, e3, e4⟩
  · refine ⟨n + m + 1, v2, h4, ?_, e4⟩
    rw [zrun, h1]
    dsimp only
    rw [h2]
    dsimp only
    rw [h3]
    dsimp only
    rw [hl, zrun_more n _ _ _ _ _ _ _ e1 (n + m) (by omega)]
    exact zrun_more m _ _ _ _ _ _ _ e3 (n + m) (by omega)
  · refine ⟨n + m + 1, v2, h4, ?_, e4⟩
    rw [zrun, h1]
    dsimp only
    rw [h2]
    dsimp only
    rw [h3]
    dsimp only
    rw [hl, zrun_more n _ _ _ _ _ _ _ e1 (n + m) (by omega)]
    dsimp only [cond_true]
    rw [e5, e6]
    dsimp only [cond_true]
    rw [e7]
    exact zrun_more m _ _ _ _ _ _ _ e3 (n + m) (by omega)
theorem g_callv {a : Nat} {as rest ls0 : List Value} (T : zTri y pc st h a as rest) (hl : Nat.ble (zexp as).length (zml a) = true) (hz : zent a as = ls0) (hp : pc + 3 = pc') (G : zGo d a 0 ls0 [] h (zKv fun w => zGo (d + 1) y pc' ls rest (yz w) K)) : zGo (d + 1) y pc ls st h K := by
  subst hp
  refine g_call T hl hz (G.mono ?_)
  rintro _ _ ⟨w, rfl, rfl, e⟩
  exact Or.inl ⟨_, rfl, e⟩
theorem g_calli {a : Nat} {as rest ls0 : List Value} (T : zTri y pc st h a as rest) (hl : Nat.ble (zexp as).length (zml a) = true) (hz : zent a as = ls0) (hp : pc + 3 = pc') (G : zGo d a 0 ls0 [] h (zKi fun v w => zGo (d + 1) y pc' ls (.int v :: rest) (yz w) K)) : zGo (d + 1) y pc ls st h K := by
  subst hp
  refine g_call T hl hz (G.mono ?_)
  rintro _ _ ⟨v, w, rfl, rfl, e⟩
  exact Or.inl ⟨_, rfl, e⟩
theorem g_calll {a : Nat} {as rest ls0 : List Value} (T : zTri y pc st h a as rest) (hl : Nat.ble (zexp as).length (zml a) = true) (hz : zent a as = ls0) (hp : pc + 3 = pc') (G : zGo d a 0 ls0 [] h (zKl fun v w => zGo (d + 1) y pc' ls (.long v :: rest) (yz w) K)) : zGo (d + 1) y pc ls st h K := by
  subst hp
  refine g_call T hl hz (G.mono ?_)
  rintro _ _ ⟨v, w, rfl, rfl, e⟩
  exact Or.inl ⟨_, rfl, e⟩
theorem g_callr {a : Nat} {as rest ls0 : List Value} (T : zTri y pc st h a as rest) (hl : Nat.ble (zexp as).length (zml a) = true) (hz : zent a as = ls0) (hp : pc + 3 = pc') (G : zGo d a 0 ls0 [] h (zKr fun v w => zGo (d + 1) y pc' ls (va_rf v :: rest) (yz w) K)) : zGo (d + 1) y pc ls st h K := by
  subst hp
  refine g_call T hl hz (G.mono ?_)
  rintro _ _ ⟨v, w, rfl, rfl, e⟩
  exact Or.inl ⟨_, rfl, e⟩
/-- where a throw goes on -/
def zHnd (d y pc : Nat) (ls : List Value) (K : zR → zS → Prop) (E : Nat) (w : zm) : Prop := ∃ k l, zhnd y pc E = some k ∧ zst1 ls k.1 zJ = some l ∧ zGo d y k.2 l [] (yz w) K
theorem g_xcalli {a : Nat} {as rest ls0 : List Value} (T : zTri y pc st h a as rest) (hl : Nat.ble (zexp as).length (zml a) = true) (hz : zent a as = ls0) (hp : pc + 3 = pc') (hk : Nat.beq (zkd a) 0 = true) (G : zGo d a 0 ls0 [] h (zXi (fun v w => zGo (d + 1) y pc' ls (.int v :: rest) (yz w) K) (zHnd (d + 1) y pc ls K))) : zGo (d + 1) y pc ls st h K := by
  subst hp
  refine g_call T hl hz (G.mono ?_)
  rintro _ _ (⟨v, w, rfl, rfl, e⟩ | ⟨E, w, rfl, rfl, k, l, e1, e2, e3⟩)
  · exact Or.inl ⟨_, rfl, e⟩
  · exact Or.inr ⟨E, k, l, rfl, hk, e1, e2, e3⟩
theorem g_xcalll {a : Nat} {as rest ls0 : List Value} (T : zTri y pc st h a as rest) (hl : Nat.ble (zexp as).length (zml a) = true) (hz : zent a as = ls0) (hp : pc + 3 = pc') (hk : Nat.beq (zkd a) 0 = true) (G : zGo d a 0 ls0 [] h (zXl (fun v w => zGo (d + 1) y pc' ls (.long v :: rest) (yz w) K) (zHnd (d + 1) y pc ls K))) : zGo (d + 1) y pc ls st h K := by
  subst hp
  refine g_call T hl hz (G.mono ?_)
  rintro _ _ (⟨v, w, rfl, rfl, e⟩ | ⟨E, w, rfl, rfl, k, l, e1, e2, e3⟩)
  · exact Or.inl ⟨_, rfl, e⟩
  · exact Or.inr ⟨E, k, l, rfl, hk, e1, e2, e3⟩
theorem g_xcallv {a : Nat} {as rest ls0 : List Value} (T : zTri y pc st h a as rest) (hl : Nat.ble (zexp as).length (zml a) = true) (hz : zent a as = ls0) (hp : pc + 3 = pc') (hk : Nat.beq (zkd a) 0 = true) (G : zGo d a 0 ls0 [] h (zXv (fun w => zGo (d + 1) y pc' ls rest (yz w) K) (zHnd (d + 1) y pc ls K))) : zGo (d + 1) y pc ls st h K := by
  subst hp
  refine g_call T hl hz (G.mono ?_)
  rintro _ _ (⟨w, rfl, rfl, e⟩ | ⟨E, w, rfl, rfl, k, l, e1, e2, e3⟩)
  · exact Or.inl ⟨_, rfl, e⟩
  · exact Or.inr ⟨E, k, l, rfl, hk, e1, e2, e3⟩
end ZGO
