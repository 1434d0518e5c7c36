/-! new paths and traces, a path copied -/
theorem y1_at {α : Type} (f : Nat → α) {q p : Nat} (v : α) (h : q = p) : y1 f p v q = v := by rw [h, y1_same]
theorem y2_at {α : Type} (f : Nat → Nat → α) {p b q j : Nat} (v : α) (h : q = p) (h2 : j = b) : y2 f p b v q j = v := by rw [h, h2, y2_same]
theorem yfix_hi {q : Nat} (h : 1077 ≤ q) : yfix q = false := by
  unfold yfix yTop
  have : Nat.blt q 1077 = false := by
    cases e : Nat.blt q 1077 with
    | false => rfl
    | true => have := Nat.le_of_ble_eq_true e; omega
  rw [this, Bool.and_false]
theorem yk_hi {w : zm} {q : Nat} (h : 1077 ≤ q) : yk w q = yK w q := by
  unfold yk
  rw [yfix_hi h]
  rfl
theorem yR_hi {w : zm} {q j : Nat} (h : 1077 ≤ q) : yR w q j = yF w q j := by
  unfold yR
  rw [yfix_hi h]
  rfl
section NEWS
variable (w : zm) (n p b : Nat) (k : Nat ⊕ (Nat × Nat)) (v : Option Nat)
theorem zN_sz : ySz (yuN w n k) = ySz w + 1 := rfl
theorem zN_sl : ySl (yuN w n k) = ySl w + n := rfl
theorem zN_K : yK (yuN w n k) = y1 (yK w) (ySz w) (some k) := rfl
theorem zN_I : yI (yuN w n k) = y1 (yI w) (ySz w) (fun _ => 0) := rfl
theorem zN_L : yL (yuN w n k) = y1 (yL w) (ySz w) (fun _ => 0) := rfl
theorem zN_F : yF (yuN w n k) = y1 (yF w) (ySz w) (fun _ => none) := rfl
theorem zN_A : yA (yuN w n k) = y1 (yA w) (ySz w) (fun _ => 0) := rfl
theorem zN_B : yB (yuN w n k) = y1 (yB w) (ySz w) (fun _ => 0) := rfl
theorem zN_Q : yQ (yuN w n k) = y1 (yQ w) (ySz w) (fun _ => none) := rfl
theorem zF_sz : ySz (yuF w p b v) = ySz w := rfl
theorem zF_sl : ySl (yuF w p b v) = ySl w := rfl
theorem zF_K : yK (yuF w p b v) = yK w := rfl
theorem zF_I : yI (yuF w p b v) = yI w := rfl
theorem zF_L : yL (yuF w p b v) = yL w := rfl
theorem zF_F : yF (yuF w p b v) = y2 (yF w) p b v := rfl
theorem zF_A : yA (yuF w p b v) = yA w := rfl
theorem zF_B : yB (yuF w p b v) = yB w := rfl
theorem zF_Q : yQ (yuF w p b v) = yQ w := rfl
end NEWS
theorem z48 : Int32.toNatClampNeg (48 : Int32) = 48 := rfl
theorem z4 : Int32.toNatClampNeg (4 : Int32) = 4 := rfl
/-- what was there has stayed -/
def ext (w w' : zm) : Prop := ∀ q, q < ySz w → yI w' q = yI w q ∧ yA w' q = yA w q ∧ yQ w' q = yQ w q ∧ yK w' q = yK w q ∧ yF w' q = yF w q ∧ yL w' q = yL w q ∧ yB w' q = yB w q
section ALLOC
variable {d : Nat} {w : zm}
theorem c2_init {F : zm → Prop} (h : yTop ≤ ySz w) (k : ∀ w', ext w w' → ySz w' = ySz w + 5 → ySl w' = ySl w + 201 → yP w' (ySz w) → F w') : zGo d m_X2_init 0 [.ref (ySz w)] [] (yz (yuN w 9 (.inl 2))) (zKv F) := by
  have h : 1077 ≤ ySz w := h
  refine B_X2_init_0 _ ?_
  have hb : Nat.ble 1000 (ySz w) = true := Nat.ble_eq_true_of_le (by omega)
  have hf : yfix (ySz w) = false := yfix_hi h
  rw [z48]
  refine ⟨yfix_hi (by rw [zN_sz]; omega), ?_, hb, hf, yfix_hi (by rw [zF_sz, zN_sz, zN_sz]; omega), ?_, hb, hf, yfix_hi (by rw [zF_sz, zN_sz, zF_sz, zN_sz, zN_sz]; omega), ?_, hb, hf, yfix_hi (by rw [zF_sz, zN_sz, zF_sz, zN_sz, zF_sz, zN_sz, zN_sz]; omega), ?_, hb, hf, k _ ?_ rfl rfl ⟨h, ?_, ?_⟩⟩
  · simp (disch := omega) only [yk_hi, zN_K, zF_K, zN_sz, zF_sz, y1_at, y1_ne]
  · simp (disch := omega) only [yk_hi, zN_K, zF_K, zN_sz, zF_sz, y1_at, y1_ne]
  · simp (disch := omega) only [yk_hi, zN_K, zF_K, zN_sz, zF_sz, y1_at, y1_ne]
  · simp (disch := omega) only [yk_hi, zN_K, zF_K, zN_sz, zF_sz, y1_at, y1_ne]
  · intro q hq
    simp (disch := omega) only [zN_K, zF_K, zN_sz, zF_sz, zN_I, zF_I, zN_A, zF_A, zN_Q, zF_Q, zN_F, zF_F, zN_L, zF_L, zN_B, zF_B, y1_ne, y2_row, and_self]
  · simp (disch := omega) only [yk_hi, zN_K, zF_K, zN_sz, zF_sz, y1_at, y1_ne]
  · intro j hj
    obtain e | e | e | e : j = 0 ∨ j = 1 ∨ j = 2 ∨ j = 3 := by omega
    all_goals
      subst e
      constructor
      · simp (disch := omega) only [yR_hi, zN_F, zF_F, zN_sz, zF_sz, y1_at, y1_ne, y2_at, y2_ne]
      · simp (disch := omega) only [yk_hi, zN_K, zF_K, zN_sz, zF_sz, y1_at, y1_ne]
theorem yP_mv {w w' : zm} {q : Nat} (h : yP w q) (hK : ∀ i, i < 5 → yK w' (q + i) = yK w (q + i)) (hF : yF w' q = yF w q) : yP w' q := by
  obtain ⟨h1, h2, h3⟩ := h
  have h1' : 1077 ≤ q := h1
  refine ⟨h1, ?_, fun j hj => ?_⟩
  · rw [yk_hi h1'] at h2 ⊢
    rw [← h2]
    exact hK 0 (by decide)
  · obtain ⟨q1, q2⟩ := h3 j hj
    rw [yR_hi h1'] at q1 ⊢
    rw [yk_hi (by omega)] at q2 ⊢
    rw [hF, hK (j + 1) (by omega)]
    exact ⟨q1, q2⟩
theorem c5_init {F : zm → Prop} (h : yTop ≤ ySz w) (k : ∀ w', ext w w' → ySz w' = ySz w + 10 → ySl w' = ySl w + 358 → yT w' (ySz w) → (∀ j, yQ w' (ySz w + 9) j = none) → F w') : zGo (d + 1) m_X5_init 0 [.ref (ySz w)] [] (yz (yuN w 9 (.inl 5))) (zKv F) := by
  have h : 1077 ≤ ySz w := h
  refine B_X5_init_0 _ ⟨yfix_hi (by rw [zN_sz]; omega), ?_⟩
  refine c2_init (w := yuN w 9 (.inl 5)) (by rw [zN_sz]; unfold yTop; omega) (fun w2 E s1 s2 P => ?_)
  have hb : Nat.ble 1000 (ySz w) = true := Nat.ble_eq_true_of_le (by omega)
  have hf : yfix (ySz w) = false := yfix_hi h
  rw [zN_sz] at s1 P ⊢
  rw [zN_sl] at s2
  have s1 : ySz w2 = ySz w + 6 := by omega
  have k0 : yK w2 (ySz w) = some (.inl 5) := by
    rw [(E (ySz w) (by rw [zN_sz]; omega)).2.2.2.1, zN_K, y1_same]
  have f0 : yF w2 (ySz w) = fun _ => none := by
    rw [(E (ySz w) (by rw [zN_sz]; omega)).2.2.2.2.1, zN_F, y1_same]
  have old : ∀ q, q < ySz w → yI w2 q = yI w q ∧ yA w2 q = yA w q ∧ yQ w2 q = yQ w q ∧ yK w2 q = yK w q ∧ yF w2 q = yF w q ∧ yL w2 q = yL w q ∧ yB w2 q = yB w q := by
    intro q hq
    obtain ⟨e1, e2, e3, e4, e5, e6, e7⟩ := E q (by rw [zN_sz]; omega)
    rw [e1, e2, e3, e4, e5, e6, e7]
    simp (disch := omega) only [zN_K, zN_I, zN_A, zN_Q, zN_F, zN_L, zN_B, y1_ne, and_self]
  rw [z48, z4]
  refine ⟨by rw [yk_hi h]; exact k0, hb, hf, yfix_hi (by rw [zF_sz]; omega), ?_, hb, hf, yfix_hi (by simp only [zF_sz, zN_sz]; omega), ?_, hb, hf, yfix_hi (by simp only [zF_sz, zN_sz]; omega), ?_, hb, hf, yfix_hi (by simp only [zF_sz, zN_sz]; omega), ?_, hb, hf, k _ ?_ ?_ ?_ ⟨h, ?_, ?_, yP_mv P ?_ ?_, ?_⟩ ?_⟩
  · simp (disch := omega) only [yk_hi, zN_K, zF_K, zN_sz, zF_sz, y1_ne, k0]
  · simp (disch := omega) only [yk_hi, zN_K, zF_K, zN_sz, zF_sz, y1_ne, k0]
  · simp (disch := omega) only [yk_hi, zN_K, zF_K, zN_sz, zF_sz, y1_ne, k0]
  · simp (disch := omega) only [yk_hi, zN_K, zF_K, zN_sz, zF_sz, y1_ne, k0]
  · intro q hq
    obtain ⟨e1, e2, e3, e4, e5, e6, e7⟩ := old q hq
    simp (disch := omega) only [zN_K, zF_K, zN_sz, zF_sz, zN_I, zF_I, zN_A, zF_A, zN_Q, zF_Q, zN_F, zF_F, zN_L, zF_L, zN_B, zF_B, y1_ne, y2_row]
    exact ⟨e1, e2, e3, e4, e5, e6, e7⟩
  · simp only [zF_sz, zN_sz]
    omega
  · simp only [zF_sl, zN_sl]
    omega
  · simp (disch := omega) only [yk_hi, zN_K, zF_K, zN_sz, zF_sz, y1_ne, k0]
  · simp (disch := omega) only [yR_hi, zN_F, zF_F, zN_sz, zF_sz, y1_ne, y2_at, y2_ne]
  · intro i hi
    simp (disch := omega) only [zN_K, zF_K, zN_sz, zF_sz, y1_ne]
  · simp (disch := omega) only [zN_F, zF_F, zN_sz, zF_sz, y1_ne, y2_row]
  · intro j hj
    obtain e | e | e | e : j = 0 ∨ j = 1 ∨ j = 2 ∨ j = 3 := by omega
    all_goals
      subst e
      constructor
      · simp (disch := omega) only [yR_hi, zN_F, zF_F, zN_sz, zF_sz, y1_ne, y2_at, y2_ne, s1]
      · simp (disch := omega) only [yk_hi, zN_K, zF_K, zN_sz, zF_sz, y1_at, y1_ne]
        try rfl
  · intro j
    simp (disch := omega) only [zN_Q, zF_Q, zN_sz, zF_sz, y1_at]
end ALLOC
