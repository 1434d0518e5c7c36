/-! class and model stand side by side when the law's loop begins -/
def X0 : xs := (0, (fun _ => 0), -1, 0, (0, 0, 0, 0, (fun _ => 0), (fun _ => 0), (fun _ => 0), (fun _ => 0)), (fun _ => 0), (fun _ => 0), (fun _ => 0), none, (fun _ => none))
theorem cN_none (n : Nat) : cN (fun _ => (none : Option tr).isSome) n = 0 := by
  induction n with
  | zero => rfl
  | succ n ih => exact ih
theorem cN_none' (n : Nat) : cN (fun _ => (none : Option Nat).isSome) n = 0 := by
  induction n with
  | zero => rfl
  | succ n ih => exact ih
theorem xMany_0 : xMany X0 = 0 := cN_none 200
theorem thZ_nat (c : Int32) : ∃ th : Nat, thZ c = Int32.ofNat th := by
  unfold thZ
  by_cases h : ¬ c < 1 ∧ ¬ 1000 < c
  · rw [if_pos h]
    have h0 : ¬ c < 0 := by
      intro z
      refine h.1 ?_
      rw [Int32.lt_iff_toInt_lt] at z ⊢
      have a : (0 : Int32).toInt = 0 := rfl
      have b : (1 : Int32).toInt = 1 := rfl
      omega
    obtain ⟨n, -, e⟩ := n_of h0
    exact ⟨n, e⟩
  · rw [if_neg h]
    exact ⟨3, rfl⟩
theorem law_first {ns th : Nat} {f t1 t2 : Nat → Int32} {c : Int32} (h1 : ∀ o, o ≤ 26 → t1 o = Int32.ofNat (tk o)) (h2 : ∀ o, o ≤ 26 → t2 o = Int32.ofNat (pt o)) (ht : thZ c = Int32.ofNat th) : LW th ns (1077, 16289) 0 (w0 ns f t1 t2 c) X0 := by
  refine ⟨⟨⟨rfl, rfl, rfl, rfl, rfl, rfl, rfl, rfl, by decide, rfl, rfl, rfl, rfl, rfl, rfl, rfl, rfl, rfl, rfl, rfl, ht, fun o ho => ⟨h1 o ho, h2 o ho⟩, fun i hi => ?_⟩, ⟨rfl, rfl⟩, ?_⟩, ?_, ?_, rfl⟩
  · show (if i < 80 then (-1 : Int32) else 0) = -1
    rw [if_pos (by omega)]
  · refine ⟨0, (fun _ => 0), (fun _ => 0), 0, ⟨by decide, Nat.le_refl _, fun i hi => absurd hi (Nat.not_lt_zero i), fun i _ hi => absurd hi (Nat.not_lt_zero i), fun i _ _ hi => absurd hi (Nat.not_lt_zero i), fun i _ _ _ _ hi => absurd hi (Nat.not_lt_zero i), fun a p _ h => (by cases h), rfl, fun j hj => absurd hj (Nat.not_lt_zero j)⟩, ?_, ?_, fun _ _ _ => rfl, fun a T _ h => (by cases h), ?_, ?_⟩
    · rw [xMany_0]; rfl
    · rw [xMany_0]
    · show 1077 ≤ 1077 + 10 * 0 + _
      omega
    · show 16289 ≤ 16289 + 358 * 0 + _
      omega
  · refine ⟨(fun _ => none), ⟨rfl, rfl, rfl, rfl, rfl, rfl, rfl, rfl, by decide, rfl, rfl, rfl, rfl, rfl, rfl, rfl, rfl, rfl, rfl, rfl, ht, rfl, rfl⟩, rfl, fun t hlt => ?_, fun t t' a _ _ h => (by cases h), fun t a _ h => (by cases h), fun a T h => (by cases h), ?_⟩
    · show (if t < 16 then (-1 : Int32) else 0) = -1
      rw [if_pos hlt]
    · rw [xMany_0]
      exact cN_none' 16
  · exact ⟨by decide, by decide, rfl, Nat.le_refl _, by decide, by decide, fun _ => ⟨fun _ => rfl, rfl⟩, fun h => absurd rfl h⟩
/-- THE LAW, from its beginning to its end, on the small machine -/
theorem law_run {d ns : Nat} {f t1 t2 : Nat → Int32} (hns : ns ≤ 2049) (h1 : ∀ o, o ≤ 26 → t1 o = Int32.ofNat (tk o)) (h2 : ∀ o, o ≤ 26 → t2 o = Int32.ofNat (pt o)) :
    ∃ n hf, zrun n (d + 9) m_L_law 0 [.ref 0, zJ, zJ, zJ, zJ, zJ, zJ, zJ] [] (1000, 0, G0 ns f t1 t2) = some (.inl (some (.int 1)), hf) ∧ hf.1 ≤ 601024 ∧ hf.2.1 ≤ 7292999 := by
  obtain ⟨th, ht⟩ := thZ_nat (if 0 < ns then f 0 else 0)
  have L := law_first (ns := ns) (f := f) h1 h2 ht
  have G : zGo (d + 9) m_L_law 0 [.ref 0, zJ, zJ, zJ, zJ, zJ, zJ, zJ] [] (hL 1000 0 (G0 ns f t1 t2) []) (zKi fun v w => v = 1 ∧ ySz w ≤ 601024 ∧ ySl w ≤ 7292999) := by
    refine b_law (ns := ns) (f := f) rfl (by omega) rfl ?_
    rw [first_heap]
    refine law_loop (ns := ns) (th := th) hns ?_ 1000 1 0 _ X0 (1077, 16289) zJ zJ (by omega) ?_ rfl L (by decide) (by decide) (by decide) (by decide)
    · intro w u N X L a1 a2
      obtain ⟨⟨-, -, nT, tp, loc, sc, O, -, -, -, -, r6, r7⟩, -⟩ := L
      have o1 := O.1
      have b1 : bN w nT tp ≤ 64 := cN_le _ _
      exact ⟨rfl, by omega, by omega⟩
    · omega
  obtain ⟨n, r, h', e1, x, w, rfl, rfl, e2, e3, e4⟩ := G
  rw [e2] at e1
  exact ⟨n, yz w, e1, e3, e4⟩
