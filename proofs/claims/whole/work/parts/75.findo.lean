/-! the model finds the values of what was recorded -/
section FO
variable {d : Nat} {c : zm} {s : ms} {cd g : Nat → Int32}
theorem nF_32 {h : Nat} (hh : h ≤ 16) : nF h 32 = 16 + h := by
  unfold nF
  rw [if_neg (by omega)]
  omega
theorem nF_small {h x : Nat} (hx : x < 32) : nF h x = x := by
  unfold nF
  rw [if_pos hx]
theorem nM_init {h : Nat} (hh : h ≤ 16) {I : Nat → Int32} {A : Nat → Nat → Int32} (e55 : I 55 = Int32.ofNat (16 + h)) (e61 : I 61 = Int32.ofNat h) (e51 : I 51 = 0) (e52 : I 52 = 0) (e53 : I 53 = 0) (e62 : I 62 = 0) (e68 : I 68 = 0)
    (r67 : ∀ i, i < 16 → A 1067 i = Int32.ofNat i) (r68 : ∀ i, i < h → A 1068 i = Int32.ofNat (16 + i)) (r73 : ∀ i, i < 32 → A 1073 i = -1) (r64 : ∀ i, i < 16 + h → A 1064 i = 0) (r66 : ∀ i, i < 16 + h → A 1066 i = 0) : nM h I A (nInit h) := by
  refine ⟨⟨?_, e61, e51, e52, e53, fun i hi => ?_, fun i hi => ?_, fun i hi => r73 i hi, fun k hk => absurd hk (Nat.not_lt_zero k)⟩, fun x hx => ?_, ⟨fun k => k, 0, e62, Nat.zero_le _, fun k hk => absurd hk (Nat.not_lt_zero k), fun x x1 x2 => absurd x2 (by show ¬ x < 32; omega)⟩, ⟨fun k => k, 0, e68, Nat.zero_le _, fun k hk => absurd hk (Nat.not_lt_zero k), fun x p x1 x2 => absurd x2 (by have x1 : 32 ≤ x := x1; show ¬ x < 32; omega)⟩⟩
  · show I 55 = Int32.ofNat (nF h 32)
    rw [nF_32 hh]; exact e55
  · show A 1067 i = Int32.ofNat (nF h i)
    rw [nF_small (by omega)]; exact r67 i hi
  · have hi : i < h := hi
    show A 1068 i = Int32.ofNat (nF h (16 + i))
    rw [nF_small (by omega)]; exact r68 i hi
  · have h1 : x < 32 := hx.1
    have h2 : x < 16 + h := by have := hx.2; omega
    have hc : nCon (nInit h) x = false := by
      unfold nCon
      rw [show Nat.ble 32 x = false from by
        cases e : Nat.ble 32 x with
        | false => rfl
        | true => have := Nat.le_of_ble_eq_true e; omega]
      rfl
    rw [nF_small h1, hc]
    exact ⟨r64 x h2, fun z => (by cases z), r66 x h2⟩
set_option maxHeartbeats 1000000 in
theorem c9_findValues {F : zm → Prop} {m : Nat} {H : Nat → Option Nat} {len : Nat} {ad : Nat → Nat} {h : Nat} (hC : sA s 1032 = cd) (V : aV m cd H) (P : aPath cd len ad g) (hh : H (ad 0) = some h) (hlen : len ≤ 48) (N : ∀ i, i < len → nFine cd (ad i) (nAt cd ad h i)) (e45 : sI s 45 = Int32.ofNat h) (e46 : sI s 46 = Int32.ofNat len) (st : ∀ i, i < len → sA s 1059 i = Int32.ofNat (ad i))
    (k : ∀ I' A', nM h I' A' (nAt cd ad h len) → F (yM c s I' A')) : zGo (d + 4) m_X9_findValues 0 [.ref 1031, zJ] [] (yz (put c s)) (zKv F) := by
  have h16 : h ≤ 16 := (V.2.2.2 _ _ hh).2.2.1
  have hm : m ≤ 200 := V.2.1
  have e45' : ∀ I A, yI (yM c s I A) 1031 45 = Int32.ofNat h := fun _ _ => e45
  have e46' : ∀ I A, yI (yM c s I A) 1031 46 = Int32.ofNat len := fun _ _ => e46
  -- each step
  have loop4 : ∀ (j i : Nat) (I : Nat → Int32) (A : Nat → Nat → Int32), i + j = len → nM h I A (nAt cd ad h i) → nW h (nAt cd ad h i) → zGo (d + 4) m_X9_findValues 111 [.ref 1031, .int (Int32.ofNat i)] [] (yz (yM c s I A)) (zKv F) := by
    intro j
    induction j with
    | zero =>
      intro i I A hi M W
      have hi : i = len := by omega
      subst hi
      refine B_X9_findValues_111 _ ?_
      rw [e46', n_lt (by omega) (by omega)]
      exact ⟨fun e => absurd e (by omega), fun _ => k _ _ M⟩
    | succ j ih =>
      intro i I A hi M W
      refine B_X9_findValues_111 _ ?_
      rw [e46', n_lt (by omega) (by omega), show (Int32.ofNat i + 1 : Int32) = Int32.ofNat (i + 1) from n_add _ 1]
      refine ⟨fun _ => ?_, fun e => absurd (by omega) e⟩
      obtain ⟨o1, o2, o3, o4, o5⟩ := nAt_ok V P hh i (by omega)
      obtain ⟨q1, q2⟩ := nAt_go V P hh (i := i) (by omega)
      refine c9_lookAt M W h16 (by omega) (kk := i) (p := ad i) (by omega) (by omega) hC (st i (by omega)) (by omega) q1 (N i (by omega)) (fun I' A' M' W' => ?_)
      rw [← nAt_succ] at M' W'
      exact ih (i + 1) I' A' (by omega) M' W'
  -- the stack
  have loop3 : ∀ (j i : Nat) (I : Nat → Int32) (A : Nat → Nat → Int32), i + j = h → I 55 = Int32.ofNat (16 + i) → I 61 = Int32.ofNat h → I 51 = 0 → I 52 = 0 → I 53 = 0 → I 62 = 0 → I 68 = 0 → (∀ q, q < 16 → A 1067 q = Int32.ofNat q) → (∀ q, q < i → A 1068 q = Int32.ofNat (16 + q)) → (∀ q, q < 32 → A 1073 q = -1) → (∀ q, q < 16 + i → A 1064 q = 0) → (∀ q, q < 16 + i → A 1066 q = 0) → zGo (d + 4) m_X9_findValues 85 [.ref 1031, .int (Int32.ofNat i)] [] (yz (yM c s I A)) (zKv F) := by
    intro j
    induction j with
    | zero =>
      intro i I A hi e55 e61 e51 e52 e53 e62 e68 r67 r68 r73 r64 r66
      have hi : i = h := by omega
      subst hi
      refine B_X9_findValues_85 _ ?_
      rw [e45', n_lt (by omega) (by omega)]
      exact ⟨fun e => absurd e (by omega), fun _ => loop4 len 0 I A (by omega) (nM_init h16 e55 e61 e51 e52 e53 e62 e68 r67 r68 r73 r64 r66) (nInit_W h16)⟩
    | succ j ih =>
      intro i I A hi e55 e61 e51 e52 e53 e62 e68 r67 r68 r73 r64 r66
      refine B_X9_findValues_85 _ ?_
      rw [e45', n_lt (by omega) (by omega), show (Int32.ofNat i + 1 : Int32) = Int32.ofNat (i + 1) from n_add _ 1, n_cl (by omega)]
      refine ⟨fun _ => c9_value (n0 := 16 + i) e55 (by omega) ⟨n_in (by omega) (by decide), ?_⟩, fun e => absurd (by omega) e⟩
      rw [yM_A (by decide)]
      refine ih (i + 1) _ _ (by omega) rfl e61 e51 e52 e53 e62 e68 r67 (fun q hq => ?_) r73 (fun q hq => ?_) (fun q hq => ?_)
      · show upd (A 1068) i (Int32.ofNat (16 + i)) q = _
        by_cases e : q = i
        · rw [e, upd_same]
        · rw [upd_ne _ _ e]; exact r68 q (by omega)
      · show upd (A 1064) (16 + i) 0 q = 0
        by_cases e : q = 16 + i
        · rw [e, upd_same]
        · rw [upd_ne _ _ e]; exact r64 q (by omega)
      · show upd (A 1066) (16 + i) 0 q = 0
        by_cases e : q = 16 + i
        · rw [e, upd_same]
        · rw [upd_ne _ _ e]; exact r66 q (by omega)
  -- the locals
  have loop2 : ∀ (j i : Nat) (I : Nat → Int32) (A : Nat → Nat → Int32), i + j = 16 → I 55 = Int32.ofNat i → I 51 = 0 → I 52 = 0 → I 53 = 0 → I 62 = 0 → I 68 = 0 → (∀ q, q < i → A 1067 q = Int32.ofNat q) → (∀ q, q < 32 → A 1073 q = -1) → (∀ q, q < i → A 1064 q = 0) → (∀ q, q < i → A 1066 q = 0) → zGo (d + 4) m_X9_findValues 53 [.ref 1031, .int (Int32.ofNat i)] [] (yz (yM c s I A)) (zKv F) := by
    intro j
    induction j with
    | zero =>
      intro i I A hi e55 e51 e52 e53 e62 e68 r67 r73 r64 r66
      have hi : i = 16 := by omega
      subst hi
      refine B_X9_findValues_53 _ ?_
      rw [n_lit 16, n_lt (by omega) (by decide), e45', yM_I (by decide)]
      exact ⟨fun e => absurd e (by omega), fun _ => loop3 h 0 _ A (by omega) e55 rfl e51 e52 e53 e62 e68 r67 (fun q hq => absurd hq (Nat.not_lt_zero q)) r73 r64 r66⟩
    | succ j ih =>
      intro i I A hi e55 e51 e52 e53 e62 e68 r67 r73 r64 r66
      refine B_X9_findValues_53 _ ?_
      rw [n_lit 16, n_lt (by omega) (by decide), show (Int32.ofNat i + 1 : Int32) = Int32.ofNat (i + 1) from n_add _ 1, n_cl (by omega)]
      refine ⟨fun _ => c9_value (n0 := i) e55 (by omega) ⟨n_in (by omega) (by decide), ?_⟩, fun e => absurd (by omega) e⟩
      rw [yM_A (by decide)]
      refine ih (i + 1) _ _ (by omega) rfl e51 e52 e53 e62 e68 (fun q hq => ?_) r73 (fun q hq => ?_) (fun q hq => ?_)
      · show upd (A 1067) i (Int32.ofNat i) q = _
        by_cases e : q = i
        · rw [e, upd_same]
        · rw [upd_ne _ _ e]; exact r67 q (by omega)
      · show upd (A 1064) i 0 q = 0
        by_cases e : q = i
        · rw [e, upd_same]
        · rw [upd_ne _ _ e]; exact r64 q (by omega)
      · show upd (A 1066) i 0 q = 0
        by_cases e : q = i
        · rw [e, upd_same]
        · rw [upd_ne _ _ e]; exact r66 q (by omega)
  -- the places
  have loop1 : ∀ (j i : Nat) (I : Nat → Int32) (A : Nat → Nat → Int32), i + j = 32 → I 55 = 0 → I 51 = 0 → I 52 = 0 → I 53 = 0 → I 62 = 0 → I 68 = 0 → (∀ q, q < i → A 1073 q = -1) → zGo (d + 4) m_X9_findValues 32 [.ref 1031, .int (Int32.ofNat i)] [] (yz (yM c s I A)) (zKv F) := by
    intro j
    induction j with
    | zero =>
      intro i I A hi e55 e51 e52 e53 e62 e68 r73
      have hi : i = 32 := by omega
      subst hi
      refine B_X9_findValues_32 _ ?_
      rw [n_lit 32, n_lt (by omega) (by decide)]
      exact ⟨fun e => absurd e (by omega), fun _ => loop2 16 0 I A (by omega) e55 e51 e52 e53 e62 e68 (fun q hq => absurd hq (Nat.not_lt_zero q)) r73 (fun q hq => absurd hq (Nat.not_lt_zero q)) (fun q hq => absurd hq (Nat.not_lt_zero q))⟩
    | succ j ih =>
      intro i I A hi e55 e51 e52 e53 e62 e68 r73
      refine B_X9_findValues_32 _ ?_
      rw [n_lit 32, n_lt (by omega) (by decide), n_cl (by omega), yM_A (by decide), show (Int32.ofNat i + 1 : Int32) = Int32.ofNat (i + 1) from n_add _ 1]
      refine ⟨fun _ => ⟨n_in (by omega) (by decide), ih (i + 1) _ _ (by omega) e55 e51 e52 e53 e62 e68 (fun q hq => ?_)⟩, fun e => absurd (by omega) e⟩
      show upd (A 1073) i (-1) q = -1
      by_cases e : q = i
      · rw [e, upd_same]
      · rw [upd_ne _ _ e]; exact r73 q (by omega)
  refine B_X9_findValues_0 ?_
  rw [show put c s = yM c s (sI s) (sA s) from by unfold yM; rw [← sov_id]]
  rw [yM_I (by decide), yM_I (by decide), yM_I (by decide), yM_I (by decide), yM_I (by decide), yM_I (by decide)]
  exact loop1 32 0 _ _ (by omega) rfl rfl rfl rfl rfl rfl (fun q hq => absurd hq (Nat.not_lt_zero q))
end FO
