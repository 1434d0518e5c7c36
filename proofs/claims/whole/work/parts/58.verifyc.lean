/-! the class verifies -/
section VC
variable {d : Nat} {w : zm} {m : Nat} {cd : Nat → Int32}
theorem c0_holdsX {F : Int32 → zm → Prop} (C : yCd w m cd) (x : Int32) (k : F (if x < 0 ∨ m ≤ x.toNatClampNeg then 0 else 1) w) : zGo d m_X0_holds 0 [.ref 1003, .int x] [] (yz w) (zKi F) := by
  obtain ⟨h1, h2, h3⟩ := id C
  by_cases hx : x < 0
  · rw [if_pos (Or.inl hx)] at k
    refine B_X0_holds_0 _ ⟨fun _ => k, fun c => absurd hx c⟩
  · obtain ⟨n, n1, rfl⟩ := n_of hx
    rw [n_cl n1] at k
    refine c0_holds C n1 ?_
    by_cases e : n < m
    · rw [if_neg (by intro q; rcases q with q | q; exact hx q; omega)] at k
      rw [if_pos e]
      exact k
    · rw [if_pos (Or.inr (by omega))] at k
      rw [if_neg e]
      exact k
theorem c0_faultOfWord {F : Int32 → zm → Prop} (C : yCd w m cd) {a : Nat} (k : F (Int32.ofNat (vword m cd a)) w) : zGo (d + 1) m_X0_faultOfWord 0 [.ref 1003, .int (Int32.ofNat (aop cd a)), .int (aarg cd a), zJ, zJ] [] (yz w) (zKi F) := by
  have hle := (aop_eq cd a).2
  have hm := C.1
  unfold vword at k
  generalize aop cd a = o at *
  generalize aarg cd a = x at *
  have fin : ∀ (b1 b2 : Prop) [Decidable b1] [Decidable b2], (¬ 26 < o) → (b1 ↔ ((o = 2 ∨ o = 3) ∧ (x < 0 ∨ 16 ≤ x.toNatClampNeg))) → (b2 ↔ ((o = 21 ∨ o = 22 ∨ o = 23) ∧ (x < 0 ∨ m ≤ x.toNatClampNeg))) → zGo (d + 1) m_X0_faultOfWord 56 [.ref 1003, .int (Int32.ofNat o), .int x, .int (if b1 then 1 else 0), zJ] [.int (if b2 then 1 else 0)] (yz w) (zKi F) := by
    intro b1 b2 _ _ h26 e1 e2
    rw [if_neg h26] at k
    refine B_X0_faultOfWord_56 _ _ _ _ ?_
    by_cases q1 : b1
    · rw [if_pos q1]
      rw [if_pos (Or.inl (e1.mp q1))] at k
      exact ⟨fun c => absurd c (by decide), fun _ => k⟩
    · rw [if_neg q1]
      refine ⟨fun _ => ?_, fun c => absurd rfl c⟩
      by_cases q2 : b2
      · rw [if_pos q2]
        rw [if_pos (Or.inr (e2.mp q2))] at k
        exact ⟨fun c => absurd c (by decide), fun _ => k⟩
      · rw [if_neg q2]
        rw [if_neg (by
          intro z
          rcases z with z | z
          · exact q1 (e1.mpr z)
          · exact q2 (e2.mpr z))] at k
        exact ⟨fun _ => k, fun c => absurd rfl c⟩
  have go35 : ∀ (b1 : Prop) [Decidable b1], (¬ 26 < o) → (b1 ↔ ((o = 2 ∨ o = 3) ∧ (x < 0 ∨ 16 ≤ x.toNatClampNeg))) → zGo (d + 1) m_X0_faultOfWord 35 [.ref 1003, .int (Int32.ofNat o), .int x, zJ, zJ] [.int (if b1 then 1 else 0)] (yz w) (zKi F) := by
    intro b1 _ h26 e1
    refine B_X0_faultOfWord_35 _ _ _ (c8_isJump (by omega) ?_)
    by_cases hj : o = 21 ∨ o = 22 ∨ o = 23
    · rw [if_pos hj]
      refine ⟨fun c => absurd c (by decide), fun _ => c0_holdsX C x ?_⟩
      by_cases hx : x < 0 ∨ m ≤ x.toNatClampNeg
      · rw [if_pos hx]
        exact ⟨fun _ => fin b1 True h26 e1 ⟨fun _ => ⟨hj, hx⟩, fun _ => trivial⟩, fun c => absurd rfl c⟩
      · rw [if_neg hx]
        exact ⟨fun c => absurd c (by decide), fun _ => fin b1 False h26 e1 ⟨fun c => c.elim, fun c => absurd c.2 hx⟩⟩
    · rw [if_neg hj]
      exact ⟨fun _ => fin b1 False h26 e1 ⟨fun c => c.elim, fun c => absurd c.1 hj⟩, fun c => absurd rfl c⟩
  refine B_X0_faultOfWord_0 _ _ ?_
  simp (disch := omega) only [n_lit 27, n_lit 2, n_lit 3, n_lt, n_eq]
  have hx16 : ¬ x < 0 → ((x < 16) ↔ x.toNatClampNeg < 16) := by
    intro hx
    obtain ⟨n, n1, rfl⟩ := n_of hx
    rw [n_cl n1, n_lit 16, n_lt n1 (by decide)]
  have three : ¬ 26 < o → (o = 2 ∨ o = 3) → ((x < 0 → zGo (d + 1) m_X0_faultOfWord 35 [.ref 1003, .int (Int32.ofNat o), .int x, zJ, zJ] [.int 1] (yz w) (zKi F)) ∧ (¬ x < 0 → ((x < 16 → zGo (d + 1) m_X0_faultOfWord 35 [.ref 1003, .int (Int32.ofNat o), .int x, zJ, zJ] [.int 0] (yz w) (zKi F)) ∧ (¬ x < 16 → zGo (d + 1) m_X0_faultOfWord 35 [.ref 1003, .int (Int32.ofNat o), .int x, zJ, zJ] [.int 1] (yz w) (zKi F))))) := by
    intro h26 ho
    refine ⟨fun c => go35 True h26 ⟨fun _ => ⟨ho, Or.inl c⟩, fun _ => trivial⟩, fun c => ⟨fun c2 => go35 False h26 ⟨fun z => z.elim, fun z => ?_⟩, fun c2 => go35 True h26 ⟨fun _ => ⟨ho, Or.inr ?_⟩, fun _ => trivial⟩⟩⟩
    · have := (hx16 c).mp c2
      rcases z.2 with z | z
      · exact c z
      · omega
    · have := mt (hx16 c).mpr c2
      omega
  refine ⟨fun c => ⟨fun e => three (by omega) (Or.inl e), fun e1 => ⟨fun e => three (by omega) (Or.inr e), fun e2 => ?_⟩⟩, fun c => ?_⟩
  · exact go35 False (by omega) ⟨fun z => z.elim, fun z => absurd z.1 (fun q => q.elim e1 e2)⟩
  · rw [if_pos (by omega)] at k
    exact k
theorem c0_words {F : Int32 → zm → Prop} (C : yCd w m cd) : ∀ (j i : Nat) (u : Value), i + j = m → zisL u = false →
    ((vwords m cd j i).1 = 0 → F 0 w) → (¬ (vwords m cd j i).1 = 0 → F (Int32.ofNat (vwords m cd j i).1) (yuI w 1003 4 (vwords m cd j i).2)) →
    zGo (d + 3) m_X0_findFaultOfWords 2 [.ref 1003, .int (Int32.ofNat i), u] [] (yz w) (zKi F) := by
  have hm := C.1
  intro j
  induction j with
  | zero =>
    intro i u hi hu k1 k2
    refine B_X0_findFaultOfWords_2 _ _ hu ?_
    simp (disch := omega) only [C.2.1, n_lt]
    exact ⟨fun c => absurd c (by omega), fun _ => k1 rfl⟩
  | succ j ih =>
    intro i u hi hu k1 k2
    refine B_X0_findFaultOfWords_2 _ _ hu ?_
    simp (disch := omega) only [C.2.1, n_lt]
    refine ⟨fun _ => ?_, fun c => absurd (by omega) c⟩
    refine c0_op C (by omega) (c0_arg C (by omega) ?_)
    rw [(aop_eq cd i).1]
    refine c0_faultOfWord C (a := i) ?_
    have hv : vword m cd i ≤ 2 := by
      unfold vword
      split
      · omega
      · split <;> omega
    unfold vwords at k1 k2
    simp (disch := omega) only [n_lit 0, n_eq]
    by_cases e : vword m cd i = 0
    · rw [if_pos e] at k1 k2
      refine ⟨fun _ => ?_, fun c => absurd e c⟩
      rw [show (Int32.ofNat i + 1 : Int32) = Int32.ofNat (i + 1) from n_add i 1]
      exact ih (i + 1) _ (by omega) rfl k1 k2
    · rw [if_neg e] at k1 k2
      exact ⟨fun c => absurd c e, fun _ => k2 e⟩
theorem c0_reach {F : Int32 → zm → Prop} (C : yCd w m cd) {f g : Nat → Int32} {pl : Int32} {H : Nat → Option Nat} {x b : Nat} (hf : vrow m f H) (hH : vbd H) (hb : b ≤ 16) (hx : x < 2147483648) (k : ∀ f', vrow m f' (vreach m x b H).2 → F (Int32.ofNat (vreach m x b H).1) (vw w f' g pl)) :
    zGo (d + 1) m_X0_reach 0 [.ref 1003, .int (Int32.ofNat x), .int (Int32.ofNat b)] [] (yz (vw w f g pl)) (zKi F) := by
  have hm := C.1
  refine B_X0_reach_0 _ _ (c0_holds (w := vw w f g pl) C hx ?_)
  unfold vreach at k
  by_cases e : x < m
  · rw [if_pos e] at k ⊢
    refine ⟨fun c => absurd c (by decide), fun _ => ⟨n_in (by omega) (by decide), ?_⟩⟩
    simp (disch := omega) only [qv_f, n_cl, vw_fA, hf x e]
    cases hq : H x with
    | none =>
      rw [hq] at k
      refine ⟨fun _ => ⟨n_in (by omega) (by decide), k _ (hf.put x b)⟩, fun c => absurd rfl c⟩
    | some h9 =>
      rw [hq] at k
      have h16 := hH _ _ hq
      dsimp only [vhv] at k ⊢
      refine ⟨fun c => absurd c (by rw [n_m1 (by omega)]; exact id), fun _ => ⟨n_in (by omega) (by decide), ?_⟩⟩
      rw [n_eq (by omega) (by omega)]
      by_cases e2 : h9 = b
      · rw [if_pos e2] at k
        exact ⟨fun _ => ⟨n_in (by omega) (by decide), k _ (hf.put x b)⟩, fun c => absurd e2 c⟩
      · rw [if_neg e2] at k
        exact ⟨fun c => absurd c e2, fun _ => k _ hf⟩
  · rw [if_neg e] at k ⊢
    exact ⟨fun _ => k _ hf, fun c => absurd rfl c⟩
theorem c0_lookAt {F : Int32 → zm → Prop} (C : yCd w m cd) (hT : ∀ o, o ≤ 26 → yA w 1 o = Int32.ofNat (tk o) ∧ yA w 2 o = Int32.ofNat (pt o)) {f g : Nat → Int32} {pl : Int32} {H : Nat → Option Nat} {a h : Nat} (hf : vrow m f H) (hH : vbd H) (ha : a < m) (hh : H a = some h) (hw : vword m cd a = 0)
    (k : ∀ f', vrow m f' (vlook m cd a h H).2 → F (Int32.ofNat (vlook m cd a h H).1) (vw w f' g pl)) :
    zGo (d + 3) m_X0_lookAt 0 [.ref 1003, .int (Int32.ofNat a), zJ, zJ, zJ] [] (yz (vw w f g pl)) (zKi F) := by
  have hm := C.1
  have h16 := hH _ _ hh
  have hle := (aop_eq cd a).2
  have C' : ∀ f g pl, yCd (vw w f g pl) m cd := fun _ _ _ => C
  have ho : aop cd a ≤ 26 := by
    unfold vword at hw
    by_cases e : 26 < aop cd a
    · rw [if_pos e] at hw
      omega
    · omega
  have hj : (aop cd a = 21 ∨ aop cd a = 22 ∨ aop cd a = 23) → ∃ x, x < m ∧ aarg cd a = Int32.ofNat x := by
    intro q
    unfold vword at hw
    rw [if_neg (by omega)] at hw
    by_cases e : aarg cd a < 0 ∨ m ≤ (aarg cd a).toNatClampNeg
    · rw [if_pos (Or.inr ⟨q, e⟩)] at hw
      omega
    · obtain ⟨n, n1, n2⟩ := n_of (fun z => e (Or.inl z))
      refine ⟨n, ?_, n2⟩
      rw [n2, n_cl n1] at e
      have : ¬ m ≤ n := fun z => e (Or.inr z)
      omega
  have htk : tk (aop cd a) ≤ 2 := by
    unfold tk
    split
    · omega
    · split <;> omega
  have hpt : pt (aop cd a) ≤ 2 := by
    unfold pt
    split
    · omega
    · split <;> omega
  have hfa : f a = Int32.ofNat h := by rw [hf a ha, hh]; rfl
  refine B_X0_lookAt_0 _ (c0_op (C' _ _ _) ha (c0_holds (C' _ _ _) (by omega) ?_))
  rw [if_pos ha, (aop_eq cd a).1]
  unfold vlook at k
  obtain ⟨t1, t2⟩ := hT (aop cd a) ho
  generalize hog : aop cd a = o at *
  simp (disch := omega) only [n_lit 27, n_lit 21, n_lit 16, n_lt, n_cl, qv_f, qv_t, qv_u, hfa, t1, t2]
  refine ⟨fun c => absurd c (by decide), fun _ => ⟨fun _ => ⟨fun _ => ⟨n_in (by omega) (by decide), n_in (by omega) (by decide), ?_⟩, fun c => absurd (by omega) c⟩, fun c => absurd (by omega) c⟩⟩
  by_cases e1 : h < tk o
  · rw [if_pos e1] at k
    exact ⟨fun _ => k _ hf, fun c => absurd e1 c⟩
  · rw [if_neg e1] at k
    refine ⟨fun c => absurd c e1, fun _ => ⟨n_in (by omega) (by decide), n_in (by omega) (by decide), n_in (by omega) (by decide), ?_⟩⟩
    simp (disch := omega) only [n_sub, n_add, n_lt]
    generalize hbg : h - tk o + pt o = b at *
    by_cases e2 : 16 < b
    · rw [if_pos e2] at k
      exact ⟨fun _ => k _ hf, fun c => absurd e2 c⟩
    · rw [if_neg e2] at k
      refine ⟨fun c => absurd c e2, fun _ => ?_⟩
      -- behind the first reach
      have go97 : ∀ (r : Nat × (Nat → Option Nat)) (f1 : Nat → Int32), r.1 < 100 → vrow m f1 r.2 → vbd r.2 →
          (∀ f', vrow m f' (if r.1 = 0 ∧ (o = 21 ∨ o = 22 ∨ o = 23) then vreach m (aarg cd a).toNatClampNeg b r.2 else r).2 → F (Int32.ofNat (if r.1 = 0 ∧ (o = 21 ∨ o = 22 ∨ o = 23) then vreach m (aarg cd a).toNatClampNeg b r.2 else r).1) (vw w f' g pl)) →
          zGo (d + 3) m_X0_lookAt 97 [.ref 1003, .int (Int32.ofNat a), .int (Int32.ofNat o), .int (Int32.ofNat b), zJ] [.int (Int32.ofNat r.1)] (yz (vw w f1 g pl)) (zKi F) := by
        intro r f1 hr1 hr2 hr3 k
        refine B_X0_lookAt_97 _ _ _ _ ?_
        simp (disch := omega) only [n_lit 0, n_eq]
        refine ⟨fun z => c8_isJump (by omega) ?_, fun z => ?_⟩
        · by_cases q : o = 21 ∨ o = 22 ∨ o = 23
          · rw [if_pos ⟨z, q⟩] at k
            rw [if_pos q]
            refine ⟨fun c => absurd c (by decide), fun _ => c0_arg (C' _ _ _) ha ?_⟩
            obtain ⟨x, x1, x2⟩ := hj q
            have x2' : cd a >>> 6 = Int32.ofNat x := x2
            rw [x2'] 
            rw [x2, n_cl (by omega)] at k
            exact c0_reach C hr2 hr3 (by omega) (by omega) k
          · rw [if_neg (fun c => q c.2)] at k
            rw [if_neg q]
            exact ⟨fun _ => k _ hr2, fun c => absurd rfl c⟩
        · rw [if_neg (fun c => z c.1)] at k
          exact k _ hr2
      have hz : (Int32.ofNat o = 0) = (o = 0) := n_eq (by omega) (by decide)
      rw [hz, n_eq (by omega) (by decide)]
      refine ⟨fun z => ?_, fun z0 => ⟨fun z => ?_, fun z21 => ?_⟩⟩
      · rw [if_pos (Or.inl z)] at k
        exact go97 (0, H) f (by show 0 < 100; omega) hf hH k
      · rw [if_pos (Or.inr z)] at k
        exact go97 (0, H) f (by show 0 < 100; omega) hf hH k
      · rw [if_neg (fun c => c.elim z0 z21)] at k
        rw [show (Int32.ofNat a + 1 : Int32) = Int32.ofNat (a + 1) from n_add a 1]
        refine c0_reach C hf hH (by omega) (by omega) (fun f' hf' => ?_)
        refine go97 _ f' ?_ hf' (vreach_bd hH (by omega)) k
        unfold vreach
        split
        · split
          · show 0 < 100
            omega
          · split
            · show 0 < 100
              omega
            · show 5 < 100
              omega
        · show 6 < 100
          omega
end VC
