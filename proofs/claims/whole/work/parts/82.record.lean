/-! the class records, cuts off, warms -/
section REC
variable {d : Nat} {e w : zm} {u : Nat × Nat} {th : Nat} {X : xs}
theorem vov_some {k : Nat} (h : k < 2147483648) : (vov (some k) = -1) = False := n_m1 h
theorem c4_isOn {F : Int32 → zm → Prop} (R : RCr (xC X) w (xR X)) (k : F (if (xR X).isSome = true then 1 else 0) w) : zGo d m_X4_isOn 0 [.ref 1025] [] (yz w) (zKi F) := by
  refine B_X4_isOn_0 ?_
  cases h : xR X with
  | none =>
    rw [h] at R k
    exact ⟨fun _ => k, fun z => absurd R.1 z⟩
  | some r =>
    rw [h] at R k
    rw [R.2.2.1, n_m1 (by have := R.1; omega)]
    exact ⟨fun z => z.elim, fun _ => k⟩
theorem c4_isOfBridge {F : Int32 → zm → Prop} {r : rk} (R : RCr (xC X) w (some r)) (k : F (if r.2.1.isSome = true then 1 else 0) w) : zGo d m_X4_isOfBridge 0 [.ref 1025] [] (yz w) (zKi F) := by
  refine B_X4_isOfBridge_0 ?_
  rw [R.2.2.2.1]
  cases h : r.2.1 with
  | none =>
    rw [h] at k
    exact ⟨fun _ => k, fun z => absurd rfl z⟩
  | some j =>
    rw [h] at k
    have := R.2.1 j h
    rw [vov_some (by omega)]
    exact ⟨fun z => z.elim, fun _ => k⟩
theorem c6_find {F : Option Nat → zm → Prop} {a : Nat} (ha : a < 200) (k : F (yQ w 1023 a) w) : zGo d m_X6_find 0 [.ref 1022, .int (Int32.ofNat a)] [] (yz w) (zKr F) := by
  refine B_X6_find_0 _ ?_
  rw [n_neg (by omega), n_lit 200, n_lt (by omega) (by decide), n_cl (by omega)]
  exact ⟨fun z => z.elim, fun _ => ⟨fun _ => ⟨n_in ha (by decide), fun o ho => by rw [← ho]; exact k⟩, fun z => absurd ha z⟩⟩
/-- where a trace lies -/
theorem RC.at (R : RC e u th w X) {a : Nat} {T : tr} (ha : a < 200) (hT : xT X a = some T) : ∃ p, yQ w 1023 a = some p ∧ yT w p ∧ tHc (xC X) (yI w) (yA w) (yQ w) p a T ∧ (∀ j q, j < 4 → yQ w (p + 9) j = some q → yP w q ∧ (q + 5 ≤ p ∨ p + 10 ≤ q)) := by
  obtain ⟨nT, tp, loc, sc, O, r2, r3, r4, r5, -⟩ := R.2.2.1
  obtain ⟨p, p1, p2⟩ := r5 a T ha hT
  obtain ⟨t1, t2, i, i1, i2, i3⟩ := O.T ha p1
  refine ⟨p, p1, t1, p2, fun j q hj hq => ?_⟩
  obtain ⟨o1, o2, o3⟩ := O.2.2.2.2.1 i j q i1 hj (by rw [i2]; exact hq)
  exact ⟨o1, sTP t1 o1 (by rw [← i2]; exact o3 i i1)⟩
theorem RC.none (R : RC e u th w X) {a : Nat} (ha : a < 200) (hT : xT X a = .none) : yQ w 1023 a = .none := by
  obtain ⟨nT, tp, loc, sc, O, r2, r3, r4, r5, -⟩ := R.2.2.1
  exact r4 a ha hT
theorem RC.tcut (R : RC e u th w X) {a p k : Nat} {T : tr} (ha : a < 200) (hT : xT X a = some T) (hp : yQ w 1023 a = some p) : RC e u th (yuA (yuA w (p + 7) k (yA w (p + 7) k + 1)) (p + 6) k 0) (xMod X a (tCut k)) := by
  obtain ⟨p', p1, t1, p2, -⟩ := R.at ha hT
  rw [hp] at p1
  cases p1
  have hb := t1.1
  refine R.fix ((fixd_A w _ _ (by omega)).trans (fixd_A _ _ _ (by omega))) ?_ ⟨_, rfl⟩
  refine R.2.2.1.set (T' := tCut k T) ha hT hp ⟨fun q hq hd => ⟨rfl, ?_⟩, rfl, rfl, rfl, rfl, rfl, rfl⟩ ?_ rfl rfl rfl rfl id id (fun i hi h6 h7 => ?_) (fun k' hk' hz => ?_) rfl rfl rfl rfl
  · show y1 (y1 (yA w) (p + 7) _) (p + 6) _ q = yA w q
    rw [y1_ne _ _ (by omega), y1_ne _ _ (by omega)]
  · show nSet (xT X) a ((xT X a).map (tCut k)) = nSet (xT X) a (some (tCut k T))
    rw [hT]
    rfl
  · show y1 (y1 (yA w) (p + 7) _) (p + 6) _ (p + i) = yA w (p + i)
    rw [y1_ne _ _ (by omega), y1_ne _ _ (by omega)]
  · obtain ⟨z1, z2⟩ := hz
    constructor
    · show y1 (y1 (yA w) (p + 7) _) (p + 6) (upd (y1 (yA w) (p + 7) _ (p + 6)) k 0) (p + 6) k' = upd (tFl T) k 0 k'
      rw [y1_same, y1_ne _ _ (by omega)]
      by_cases c : k' = k
      · rw [c, upd_same, upd_same]
      · rw [upd_ne _ _ c, upd_ne _ _ c]; exact z1
    · show y1 (y1 (yA w) (p + 7) (upd (yA w (p + 7)) k _)) (p + 6) _ (p + 7) k' = upd (tCt T) k (tCt T k + 1) k'
      rw [y1_ne _ _ (by omega), y1_same]
      by_cases c : k' = k
      · rw [c] at z2
        rw [c, upd_same, upd_same, z2]
      · rw [upd_ne _ _ c, upd_ne _ _ c]; exact z2
theorem RC.tfail (R : RC e u th w X) {a p k : Nat} {T : tr} (ha : a < 200) (hT : xT X a = some T) (hp : yQ w 1023 a = some p) : RC e u th (yuA w (p + 6) k (yA w (p + 6) k + 1)) (xMod X a (tFail k)) := by
  obtain ⟨p', p1, t1, p2, -⟩ := R.at ha hT
  rw [hp] at p1
  cases p1
  have hb := t1.1
  refine R.fix (fixd_A w _ _ (by omega)) ?_ ⟨_, rfl⟩
  refine R.2.2.1.set (T' := tFail k T) ha hT hp ⟨fun q hq hd => ⟨rfl, ?_⟩, rfl, rfl, rfl, rfl, rfl, rfl⟩ ?_ rfl rfl rfl rfl id id (fun i hi h6 h7 => ?_) (fun k' hk' hz => ?_) rfl rfl rfl rfl
  · show y1 (yA w) (p + 6) _ q = yA w q
    rw [y1_ne _ _ (by omega)]
  · show nSet (xT X) a ((xT X a).map (tFail k)) = nSet (xT X) a (some (tFail k T))
    rw [hT]
    rfl
  · show y1 (yA w) (p + 6) _ (p + i) = yA w (p + i)
    rw [y1_ne _ _ (by omega)]
  · obtain ⟨z1, z2⟩ := hz
    constructor
    · show y1 (yA w) (p + 6) (upd (yA w (p + 6)) k _) (p + 6) k' = upd (tFl T) k (tFl T k + 1) k'
      rw [y1_same]
      by_cases c : k' = k
      · rw [c] at z1
        rw [c, upd_same, upd_same, z1]
      · rw [upd_ne _ _ c, upd_ne _ _ c]; exact z1
    · show y1 (yA w) (p + 6) _ (p + 7) k' = tCt T k'
      rw [y1_ne _ _ (by omega)]
      exact z2
theorem RC.tint (R : RC e u th w X) {a p b : Nat} {T T' : tr} {v : Int32} (f : tr → tr) (hf : f T = T') (hb2 : b = 7 ∨ b = 8) (ha : a < 200) (hT : xT X a = some T) (hp : yQ w 1023 a = some p)
    (h7 : yI w p 7 = tBg T → y2 (yI w) p b v p 7 = tBg T') (h8 : yI w p 8 = tRd T → y2 (yI w) p b v p 8 = tRd T') (s0 : tFl T' = tFl T ∧ tCt T' = tCt T) (s1 : tP T' = tP T) (s2 : tNb T' = tNb T) (s3 : tBr T' = tBr T) (s4 : tBp T' = tBp T) : RC e u th (yuI w p b v) (xMod X a f) := by
  obtain ⟨p', p1, t1, p2, -⟩ := R.at ha hT
  rw [hp] at p1
  cases p1
  have hb := t1.1
  have ht : yTop = 1077 := rfl
  refine R.fix (fixd_I w _ _ (Or.inl hb)) ?_ ⟨_, rfl⟩
  refine R.2.2.1.set (T' := T') ha hT hp ⟨fun q hq hd => ⟨y2_row _ _ (by omega), rfl⟩, y2_row _ _ (by omega), rfl, rfl, rfl, rfl, rfl⟩ ?_ rfl (y2_ne _ _ (Or.inr (by omega))) (y2_ne _ _ (Or.inr (by omega))) (y2_row _ _ (by omega)) h7 h8 (fun i hi h6 h7 => rfl) (fun k' hk' hz => ?_) s1 s2 s3 s4
  · show nSet (xT X) a ((xT X a).map f) = nSet (xT X) a (some T')
    rw [hT, ← hf]
    rfl
  · rw [s0.1, s0.2]
    exact hz
theorem RC.tbegun (R : RC e u th w X) {a p : Nat} {T : tr} (ha : a < 200) (hT : xT X a = some T) (hp : yQ w 1023 a = some p) : RC e u th (yuI w p 7 (yI w p 7 + 1)) (xMod X a tBegun) :=
  R.tint (T' := tBegun T) tBegun rfl (Or.inl rfl) ha hT hp (fun h => by rw [y2_same, h]; rfl) (fun h => by rw [y2_ne _ _ (Or.inr (by decide)), h]; rfl) ⟨rfl, rfl⟩ rfl rfl rfl rfl
theorem RC.tround (R : RC e u th w X) {a p : Nat} {T : tr} (ha : a < 200) (hT : xT X a = some T) (hp : yQ w 1023 a = some p) : RC e u th (yuI w p 8 (yI w p 8 + 1)) (xMod X a tRound) :=
  R.tint (T' := tRound T) tRound rfl (Or.inr rfl) ha hT hp (fun h => by rw [y2_ne _ _ (Or.inr (by decide)), h]; rfl) (fun h => by rw [y2_same, h]; rfl) ⟨rfl, rfl⟩ rfl rfl rfl rfl
/-- a recording begins -/
theorem RC.recB (R : RC e u th w X) {hd : Nat} {gd : Option Nat} (h1 : hd < 200) (h2 : ∀ k, gd = some k → k < 48) : RC e u th (yuI (yuI (yuI (yuI (yuI (yuI (yuI w 1025 1 (Int32.ofNat hd)) 1025 2 (vov gd)) 1026 4 0) 1026 5 (yI w 1009 1)) 1026 6 0) 1026 7 0) 1026 8 0) (xsR X (some (hd, gd, ((xA X).2.1, 0, (fun _ => xPc X), (fun _ => -1))))) := by
  obtain ⟨⟨a1, a2, a3, a4, a5, a6, a7, a8, a9, a10, a11, a12, a13, a14, a15, a16, a17, a18, a19, a20, a21, a22, a23⟩, r2, r3, r4⟩ := R
  refine ⟨⟨a1, a2, a3, a4, a5, a6, a7, a8, a9, a10, a11, a12, a13, a14, a15, a16, a17, a18, a19, a20, a21, a22, a23⟩, ⟨h1, h2, rfl, rfl, rfl, a2, rfl, rfl, rfl, fun i hi => absurd hi (Nat.not_lt_zero i), fun i hi => absurd hi (Nat.not_lt_zero i)⟩, r3.dyn ?_ rfl rfl, ?_⟩
  · exact ((((((dyn_I w _ _ rfl (by decide)).trans (dyn_I _ _ _ rfl (by decide))).trans (dyn_I _ _ _ rfl (by decide))).trans (dyn_I _ _ _ rfl (by decide))).trans (dyn_I _ _ _ rfl (by decide))).trans (dyn_I _ _ _ rfl (by decide))).trans (dyn_I _ _ _ rfl (by decide))
  · exact ((((((r4.I _ _ (by decide)).I _ _ (by decide)).I _ _ (by decide)).I _ _ (by decide)).I _ _ (by decide)).I _ _ (by decide)).I _ _ (by decide)
theorem c8_beginRecording {F : zm → Prop} (R : RC e u th w X) {hd : Nat} {gd : Option Nat} {x : Int32} (hx : x = vov gd) (h1 : hd < 200) (h2 : ∀ k, gd = some k → k < 48) (k : ∀ w', RC e u th w' (xBegin X hd gd) → F w') : zGo (d + 2) m_X8_beginRecording 0 [.ref 1000, .int (Int32.ofNat hd), .int x] [] (yz w) (zKv F) := by
  subst hx
  refine B_X8_beginRecording_0 _ _ ?_
  refine B_X4_begin_0 _ _ _ ?_
  refine B_X2_begin_r_0 _ ?_
  exact k _ ((R.n3 1).recB h1 h2)
theorem c4_drop {F : zm → Prop} (R : RC e u th w X) (k : ∀ w', RC e u th w' (xsR X none) → F w') : zGo d m_X4_drop 0 [.ref 1025] [] (yz w) (zKv F) := B_X4_drop_0 (k _ R.drop)
theorem if01 (b : Bool) : ((if b = true then (1 : Int32) else 0) = 0) = (b = false) := by cases b <;> simp
theorem c8_cutOff {F : zm → Prop} (R : RC e u th w X) {r : rk} (hr : xR X = some r) (h1 : r.1 < xM X) (h2 : ∀ k, r.2.1 = some k → ∃ T, xT X r.1 = some T) (k : ∀ w', RC e u th w' (xCut X) → F w') : zGo (d + 1) m_X8_cutOff 0 [.ref 1000, zJ] [] (yz w) (zKv F) := by
  have hm : xM X ≤ 200 := R.1.2.2.2.2.2.2.2.2.1
  refine B_X8_cutOff_0 ?_
  have R1 := R.n4 1
  have rr : RCr (xC X) (yuL w 1000 12 (yL w 1000 12 + 1)) (some r) := by
    have := R1.2.1
    rw [show xR (xsN X 4 1) = some r from hr] at this
    exact this
  refine c4_isOfBridge (X := X) rr ?_
  rw [if01]
  unfold xCut at k
  rw [hr] at k
  dsimp only at k
  cases hk : r.2.1 with
  | none =>
    rw [hk] at k
    dsimp only at k
    refine ⟨fun _ => ?_, fun z => absurd rfl z⟩
    rw [rr.2.2.1]
    refine c0_holds R1.code (by omega) ?_
    rw [if_pos (show r.1 < xM (xsN X 4 1) from h1)]
    refine ⟨fun z => absurd z (by decide), fun _ => ?_⟩
    rw [rr.2.2.1, n_cl (by omega)]
    refine ⟨n_in (by omega) (by decide), n_in (by omega) (by decide), n_in (by omega) (by decide), ?_⟩
    refine c4_drop ((R1.heat r.1 0).cuts r.1 _) (fun w' R' => k w' ?_)
    have e2 : yA (yuL w 1000 12 (yL w 1000 12 + 1)) 1002 = xCu X := R1.1.2.2.2.2.2.2.2.2.2.2.2.2.2.2.1
    rw [e2] at R'
    exact R'
  | some j =>
    rw [hk] at k
    dsimp only at k
    obtain ⟨T, hT⟩ := h2 j hk
    refine ⟨fun z => absurd (show true = false from z) (by decide), fun _ => ?_⟩
    rw [rr.2.2.1]
    obtain ⟨p, p1, t1, p2, -⟩ := R1.at (X := xsN X 4 1) (show r.1 < 200 by omega) hT
    refine c6_find (by omega) ?_
    rw [p1]
    refine ⟨fun z => (by cases z), fun q hq => ?_⟩
    cases hq
    refine ⟨t1, ?_⟩
    have hj := rr.2.1 j hk
    rw [rr.2.2.2.1, hk, show vov (some j) = Int32.ofNat j from rfl]
    refine B_X5_noteCut_0 _ _ ?_
    rw [n_neg (by omega), n_lit 48, n_lt (by omega) (by decide), n_cl (by omega)]
    refine ⟨fun z => z.elim, fun _ => ⟨fun _ => ⟨t1, n_in (by omega) (by decide), n_in (by omega) (by decide), n_in (by omega) (by decide), ?_⟩, fun z => absurd hj z⟩⟩
    exact c4_drop (R1.tcut (k := j) (show r.1 < 200 by omega) hT p1) k
end REC
