/-! the class finds all values of a path -/
theorem c7_begin {d : Nat} {w : zm} {F : zm → Prop} {I A : Nat → Nat → Int32} {h : Nat} (k : ∀ I' A', I' 1013 8 = 32 → I' 1013 9 = 32 → I' 1015 1 = Int32.ofNat h → (∀ b, b ≠ 1 → b ≠ 8 → b ≠ 9 → ∀ p, I' p b = I p b) → I' 1026 8 = I 1026 8 → (∀ i, i < 16 → A' 1014 i = Int32.ofNat i) → (∀ i, i < 16 → A' 1016 i = Int32.ofNat (16 + i)) → (∀ i, i < 32 → A' 1017 i = -1) → (∀ i, i < 80 → A' 1021 i = 0) → (∀ p, p ≠ 1014 → p ≠ 1016 → p ≠ 1017 → p ≠ 1021 → A' p = A p) → F (yV w I' A')) :
    zGo (d + 1) m_X7_begin 0 [.ref 1013, .int (Int32.ofNat h), zJ] [] (yz (yV w I A)) (zKv F) := by
  have second : ∀ (A1 : Nat → Nat → Int32), (∀ i, i < 16 → A1 1014 i = Int32.ofNat i) → (∀ p, p ≠ 1014 → p ≠ 1016 → A1 p = A p) → ∀ (j i : Nat) (f : Nat → Int32), i + j = 16 → (∀ q, q < i → f q = Int32.ofNat (16 + q)) → zGo (d + 1) m_X7_begin 23 [.ref 1013, .int (Int32.ofNat h), .int (Int32.ofNat i)] [] (yz (yV w I (y1 A1 1016 f))) (zKv F) := by
    intro A1 h1 h2 j
    induction j with
    | zero =>
      intro i f hi hf
      refine B_X7_begin_23 _ _ ?_
      rw [n_lit 16, n_lt (by omega) (by decide)]
      refine ⟨fun e => absurd e (by omega), fun _ => ?_⟩
      refine c7_fill (n := 32) _ rfl rfl (by omega) ?_
      unfold yV
      rw [yov_R (by decide)]
      refine c7_fill (n := 80) _ rfl rfl (by omega) ?_
      rw [yov_R (by decide), yov_I (by decide), yov_I (by decide), yov_I (by decide)]
      refine k _ _ rfl rfl rfl (fun b b1 b2 b3 p => ?_) rfl (fun q hq => h1 q hq) (fun q hq => hf q (by omega)) (fun q hq => ?_) (fun q hq => ?_) (fun p p1 p2 p3 p4 => ?_)
      · rw [y2_ne _ _ (Or.inr b3), y2_ne _ _ (Or.inr b2), y2_ne _ _ (Or.inr b1)]
      · show (if q < 32 then (-1 : Int32) else _) = -1
        rw [if_pos hq]
      · show (if q < 80 then (0 : Int32) else _) = 0
        rw [if_pos hq]
      · rw [y1_ne _ _ p4, y1_ne _ _ p3, y1_ne _ _ p2]
        exact h2 p p1 p2
    | succ j ih =>
      intro i f hi hf
      refine B_X7_begin_23 _ _ ?_
      rw [n_lit 16, n_lt (by omega) (by decide), n_cl (by omega), n_add]
      refine ⟨fun _ => ⟨n_in (by omega) (by decide), ?_⟩, fun e => absurd (by omega) e⟩
      rw [show (Int32.ofNat i + 1 : Int32) = Int32.ofNat (i + 1) from n_add i 1]
      unfold yV
      rw [yov_A (by decide), y1_over]
      refine ih (i + 1) _ (by omega) (fun q hq => ?_)
      show upd f i (Int32.ofNat (16 + i)) q = _
      by_cases e : q = i
      · rw [e, upd_same]
      · rw [upd_ne _ _ e]
        exact hf q (by omega)
  have first : ∀ (j i : Nat) (f : Nat → Int32), i + j = 16 → (∀ q, q < i → f q = Int32.ofNat q) → zGo (d + 1) m_X7_begin 2 [.ref 1013, .int (Int32.ofNat h), .int (Int32.ofNat i)] [] (yz (yV w I (y1 A 1014 f))) (zKv F) := by
    intro j
    induction j with
    | zero =>
      intro i f hi hf
      refine B_X7_begin_2 _ _ ?_
      rw [n_lit 16, n_lt (by omega) (by decide)]
      refine ⟨fun e => absurd e (by omega), fun _ => ?_⟩
      have e : y1 A 1014 f = y1 (y1 A 1014 f) 1016 (A 1016) := by
        have := y1_id (y1 A 1014 f) 1016
        exact this.symm
      rw [e]
      exact second _ (fun q hq => hf q (by omega)) (fun p p1 p2 => y1_ne _ _ p1) 16 0 _ (by omega) (fun q hq => absurd hq (by omega))
    | succ j ih =>
      intro i f hi hf
      refine B_X7_begin_2 _ _ ?_
      rw [n_lit 16, n_lt (by omega) (by decide), n_cl (by omega)]
      refine ⟨fun _ => ⟨n_in (by omega) (by decide), ?_⟩, fun e => absurd (by omega) e⟩
      rw [show (Int32.ofNat i + 1 : Int32) = Int32.ofNat (i + 1) from n_add i 1]
      unfold yV
      rw [yov_A (by decide), y1_over]
      refine ih (i + 1) _ (by omega) (fun q hq => ?_)
      show upd f i (Int32.ofNat i) q = _
      by_cases e : q = i
      · rw [e, upd_same]
      · rw [upd_ne _ _ e]
        exact hf q (by omega)
  refine B_X7_begin_0 _ ?_
  have e : A = y1 A 1014 (A 1014) := (y1_id A 1014).symm
  rw [e]
  exact first 16 0 _ (by omega) (fun q hq => absurd hq (by omega))
theorem c7_find {d : Nat} {w : zm} {F : zm → Prop} {m : Nat} {cd g : Nat → Int32} {H : Nat → Option Nat} {len : Nat} {ad : Nat → Nat} {h : Nat} {adr g0 : Nat → Int32} (C : yCd w m cd) (V : aV m cd H) (P : aPath cd len ad g) (hh : H (ad 0) = some h) (hlen : len ≤ 48) (e4 : yI w 1026 4 = Int32.ofNat len) (e5 : yI w 1026 5 = Int32.ofNat h) (e6 : yI w 1026 6 = 0) (e7 : yI w 1026 7 = 0) (e8 : yI w 1026 8 = 0)
    (hadr : yA w 1027 = adr) (had : ∀ i, i < len → adr i = Int32.ofNat (ad i)) (hg0 : yA w 1029 = g0) (hops : ∀ i, i < 32 → yA w 1018 i = -1) (hfine : ∀ i, i < len → nFine cd (ad i) (nAt cd ad h i))
    (k : ∀ I A, nC adr g0 I A (nAt cd ad h len) → F (yV w I A)) : zGo (d + 5) m_X7_find 0 [.ref 1013, .ref 1026, zJ] [] (yz w) (zKv F) := by
  refine B_X7_find_0 ?_
  rw [e5]
  have e0 : w = yV w (yI w) (yA w) := yov_id _ _ _
  have loop : ∀ (j i : Nat) (I A : Nat → Nat → Int32), i + j = len → nC adr g0 I A (nAt cd ad h i) → zGo (d + 5) m_X7_find 10 [.ref 1013, .ref 1026, .int (Int32.ofNat i)] [] (yz (yV w I A)) (zKv F) := by
    intro j
    induction j with
    | zero =>
      intro i I A hi R
      refine B_X7_find_10 _ ?_
      rw [show yI (yV w I A) 1026 4 = Int32.ofNat len from e4, n_lt (by omega) (by omega)]
      refine ⟨fun e => absurd e (by omega), fun _ => ?_⟩
      rw [show i = len from by omega] at R
      exact k _ _ R
    | succ j ih =>
      intro i I A hi R
      refine B_X7_find_10 _ ?_
      rw [show yI (yV w I A) 1026 4 = Int32.ofNat len from e4, n_lt (by omega) (by omega), n_lit 48, n_lt (by omega) (by decide)]
      refine ⟨fun _ => ⟨fun _ => ?_, fun e => absurd (by omega) e⟩, fun e => absurd (by omega) e⟩
      obtain ⟨a1, a2, a3, a4, a5⟩ := nAt_ok V P hh i (by omega)
      obtain ⟨b1, b2⟩ := nAt_go V P hh (i := i) (by omega)
      refine c7_lookAt R a1 C (by omega) (by omega) (by omega) (fun q hq => by have := a5 q hq; omega) hadr (had i (by omega)) b2 b1 (hfine i (by omega)) (fun I' A' R' => ?_)
      rw [show (Int32.ofNat i + 1 : Int32) = Int32.ofNat (i + 1) from n_add i 1]
      rw [← nAt_succ] at R'
      exact ih (i + 1) I' A' (by omega) R'
  have go : zGo (d + 4) m_X7_begin 0 [.ref 1013, .int (Int32.ofNat h), zJ] [] (yz (yV w (yI w) (yA w))) (zKv fun w1 => zGo (d + 5) m_X7_find 10 [.ref 1013, .ref 1026, .int 0] [] (yz w1) (zKv F)) := by
    refine c7_begin (fun I' A' i1 i2 i3 i4 i5 a1 a2 a3 a4 a5 => ?_)
    have h16 := (V.2.2.2 _ _ hh).2.2.1
    refine loop len 0 I' A' (by omega) ?_
    show nC adr g0 I' A' (nInit h)
    refine ⟨i1, i2, i3, ?_, ?_, ?_, a1, fun i hi => a2 i (by have hi : i < h := hi; omega), fun i hi => a3 i hi, fun i hi => ?_, fun i q1 q2 => absurd q2 (by show ¬ i < 32; omega), fun i hi => a4 i hi, fun q hq => absurd hq (Nat.not_lt_zero q), fun i _ => ?_⟩
    · rw [i4 6 (by decide) (by decide) (by decide) 1026, e6]
      rfl
    · rw [i4 7 (by decide) (by decide) (by decide) 1026, e7]
      rfl
    · rw [i5, e8]
      rfl
    · rw [a5 1018 (by decide) (by decide) (by decide) (by decide)]
      exact hops i hi
    · rw [a5 1029 (by decide) (by decide) (by decide) (by decide), hg0]
  rw [← e0] at go
  exact go
