/-! numbers as the instructions push them -/
theorem kc_b15 : (Int8.ofInt 15).toInt32 = (15 : Int32) := by decide
theorem kc_b16 : (Int8.ofInt 16).toInt32 = (16 : Int32) := by decide
theorem kc_b17 : (Int8.ofInt 17).toInt32 = (17 : Int32) := by decide
theorem kc_b18 : (Int8.ofInt 18).toInt32 = (18 : Int32) := by decide
theorem kc_b19 : (Int8.ofInt 19).toInt32 = (19 : Int32) := by decide
theorem kc_b21 : (Int8.ofInt 21).toInt32 = (21 : Int32) := by decide
theorem kc_b22 : (Int8.ofInt 22).toInt32 = (22 : Int32) := by decide
theorem kc_b23 : (Int8.ofInt 23).toInt32 = (23 : Int32) := by decide
theorem kc_b25 : (Int8.ofInt 25).toInt32 = (25 : Int32) := by decide
theorem kc_b26 : (Int8.ofInt 26).toInt32 = (26 : Int32) := by decide
theorem kc_b31 : (Int8.ofInt 31).toInt32 = (31 : Int32) := by decide
theorem kc_b32 : (Int8.ofInt 32).toInt32 = (32 : Int32) := by decide
theorem kc_b48 : (Int8.ofInt 48).toInt32 = (48 : Int32) := by decide
theorem kc_b6 : (Int8.ofInt 6).toInt32 = (6 : Int32) := by decide
theorem kc_b63 : (Int8.ofInt 63).toInt32 = (63 : Int32) := by decide
theorem kc_b7 : (Int8.ofInt 7).toInt32 = (7 : Int32) := by decide
theorem kc_b8 : (Int8.ofInt 8).toInt32 = (8 : Int32) := by decide
theorem kc_b80 : (Int8.ofInt 80).toInt32 = (80 : Int32) := by decide
theorem kc_i0 : Int32.ofInt 0 = (0 : Int32) := by decide
theorem kc_i1 : Int32.ofInt 1 = (1 : Int32) := by decide
theorem kc_i2 : Int32.ofInt 2 = (2 : Int32) := by decide
theorem kc_i3 : Int32.ofInt 3 = (3 : Int32) := by decide
theorem kc_i4 : Int32.ofInt 4 = (4 : Int32) := by decide
theorem kc_i5 : Int32.ofInt 5 = (5 : Int32) := by decide
theorem kc_im1 : Int32.ofInt (-1) = ((-1) : Int32) := by decide
theorem kc_l0 : Int64.ofNat 0 = (0 : Int64) := by decide
theorem kc_l1 : Int64.ofNat 1 = (1 : Int64) := by decide
theorem kc_n100000 : Int32.ofNat 100000 = (100000 : Int32) := by decide
theorem kc_n27 : Int32.ofNat 27 = (27 : Int32) := by decide
theorem kc_s1000 : (Int16.ofInt 1000).toInt32 = (1000 : Int32) := by decide
theorem kc_s200 : (Int16.ofInt 200).toInt32 = (200 : Int32) := by decide
theorem kz_0 : vp_nar .boolean (0 : Int32) = (0 : Int32) := by decide
theorem kz_1 : vp_nar .boolean (1 : Int32) = (1 : Int32) := by decide
theorem zKv_mono {F F' : zm → Prop} (h : ∀ w, F w → F' w) : ∀ r h9, zKv F r h9 → zKv F' r h9 := by
  rintro _ _ ⟨w, a, b, c⟩
  exact ⟨w, a, b, h _ c⟩
theorem zKi_mono {F F' : Int32 → zm → Prop} (h : ∀ v w, F v w → F' v w) : ∀ r h9, zKi F r h9 → zKi F' r h9 := by
  rintro _ _ ⟨v, w, a, b, c⟩
  exact ⟨v, w, a, b, h _ _ c⟩
theorem zKl_mono {F F' : Int64 → zm → Prop} (h : ∀ v w, F v w → F' v w) : ∀ r h9, zKl F r h9 → zKl F' r h9 := by
  rintro _ _ ⟨v, w, a, b, c⟩
  exact ⟨v, w, a, b, h _ _ c⟩
theorem zKr_mono {F F' : Option Nat → zm → Prop} (h : ∀ v w, F v w → F' v w) : ∀ r h9, zKr F r h9 → zKr F' r h9 := by
  rintro _ _ ⟨v, w, a, b, c⟩
  exact ⟨v, w, a, b, h _ _ c⟩
theorem zTh_mono {X X' : Nat → zm → Prop} (h : ∀ E w, X E w → X' E w) : ∀ r h9, zTh X r h9 → zTh X' r h9 := by
  rintro _ _ ⟨v, w, a, b, c⟩
  exact ⟨v, w, a, b, h _ _ c⟩
theorem zXv_mono {F F' : zm → Prop} {X X' : Nat → zm → Prop} (h : ∀ w, F w → F' w) (hx : ∀ E w, X E w → X' E w) : ∀ r h9, zXv F X r h9 → zXv F' X' r h9 := by
  intro r h9 k
  rcases k with k | k
  · exact Or.inl (zKv_mono h _ _ k)
  · exact Or.inr (zTh_mono hx _ _ k)
theorem zXi_mono {F F' : Int32 → zm → Prop} {X X' : Nat → zm → Prop} (h : ∀ v w, F v w → F' v w) (hx : ∀ E w, X E w → X' E w) : ∀ r h9, zXi F X r h9 → zXi F' X' r h9 := by
  intro r h9 k
  rcases k with k | k
  · exact Or.inl (zKi_mono h _ _ k)
  · exact Or.inr (zTh_mono hx _ _ k)
theorem zXl_mono {F F' : Int64 → zm → Prop} {X X' : Nat → zm → Prop} (h : ∀ v w, F v w → F' v w) (hx : ∀ E w, X E w → X' E w) : ∀ r h9, zXl F X r h9 → zXl F' X' r h9 := by
  intro r h9 k
  rcases k with k | k
  · exact Or.inl (zKl_mono h _ _ k)
  · exact Or.inr (zTh_mono hx _ _ k)
/-- a path at p, a trace at p, with all that belongs to them -/
def yP (w : zm) (p : Nat) : Prop := yTop ≤ p ∧ yk w p = some (.inl 2) ∧ (∀ j, j < 4 → yR w p j = some (p + (j + 1)) ∧ yk w (p + (j + 1)) = some (.inr (0, 48)))
def yT (w : zm) (p : Nat) : Prop := yTop ≤ p ∧ yk w p = some (.inl 5) ∧ yR w p 0 = some (p + 1) ∧ yP w (p + 1) ∧ (∀ j, j < 4 → yR w p (j + 1) = some (p + (j + 6)) ∧ yk w (p + (j + 6)) = some (.inr (bif Nat.beq j 3 then (4, 4) else (0, 48))))
theorem yP_k {w : zm} {p : Nat} (h : yP w p) : yk w p = some (.inl 2) := h.2.1
theorem yP_b {w : zm} {p : Nat} (h : yP w p) : Nat.ble 1000 (p) = true := Nat.ble_eq_true_of_le (by have := h.1; unfold yTop at this; omega)
theorem yP_r0 {w : zm} {p : Nat} (h : yP w p) : yR w p 0 = some (p + 1) := (h.2.2 0 (by decide)).1
theorem yP_k0 {w : zm} {p : Nat} (h : yP w p) : yk w (p + 1) = some (.inr (0, 48)) := (h.2.2 0 (by decide)).2
theorem yP_b0 {w : zm} {p : Nat} (h : yP w p) : Nat.ble 1000 (p + 1) = true := Nat.ble_eq_true_of_le (by have := h.1; unfold yTop at this; omega)
theorem yP_r1 {w : zm} {p : Nat} (h : yP w p) : yR w p 1 = some (p + 2) := (h.2.2 1 (by decide)).1
theorem yP_k1 {w : zm} {p : Nat} (h : yP w p) : yk w (p + 2) = some (.inr (0, 48)) := (h.2.2 1 (by decide)).2
theorem yP_b1 {w : zm} {p : Nat} (h : yP w p) : Nat.ble 1000 (p + 2) = true := Nat.ble_eq_true_of_le (by have := h.1; unfold yTop at this; omega)
theorem yP_r2 {w : zm} {p : Nat} (h : yP w p) : yR w p 2 = some (p + 3) := (h.2.2 2 (by decide)).1
theorem yP_k2 {w : zm} {p : Nat} (h : yP w p) : yk w (p + 3) = some (.inr (0, 48)) := (h.2.2 2 (by decide)).2
theorem yP_b2 {w : zm} {p : Nat} (h : yP w p) : Nat.ble 1000 (p + 3) = true := Nat.ble_eq_true_of_le (by have := h.1; unfold yTop at this; omega)
theorem yP_r3 {w : zm} {p : Nat} (h : yP w p) : yR w p 3 = some (p + 4) := (h.2.2 3 (by decide)).1
theorem yP_k3 {w : zm} {p : Nat} (h : yP w p) : yk w (p + 4) = some (.inr (0, 48)) := (h.2.2 3 (by decide)).2
theorem yP_b3 {w : zm} {p : Nat} (h : yP w p) : Nat.ble 1000 (p + 4) = true := Nat.ble_eq_true_of_le (by have := h.1; unfold yTop at this; omega)
theorem yT_k {w : zm} {p : Nat} (h : yT w p) : yk w p = some (.inl 5) := h.2.1
theorem yT_b {w : zm} {p : Nat} (h : yT w p) : Nat.ble 1000 (p) = true := Nat.ble_eq_true_of_le (by have := h.1; unfold yTop at this; omega)
theorem yT_r0 {w : zm} {p : Nat} (h : yT w p) : yR w p 0 = some (p + 1) := h.2.2.1
theorem yT_P {w : zm} {p : Nat} (h : yT w p) : yP w (p + 1) := h.2.2.2.1
theorem yT_r1 {w : zm} {p : Nat} (h : yT w p) : yR w p 1 = some (p + 6) := (h.2.2.2.2 0 (by decide)).1
theorem yT_k1 {w : zm} {p : Nat} (h : yT w p) : yk w (p + 6) = some (.inr (0, 48)) := (h.2.2.2.2 0 (by decide)).2
theorem yT_b1 {w : zm} {p : Nat} (h : yT w p) : Nat.ble 1000 (p + 6) = true := Nat.ble_eq_true_of_le (by have := h.1; unfold yTop at this; omega)
theorem yT_r2 {w : zm} {p : Nat} (h : yT w p) : yR w p 2 = some (p + 7) := (h.2.2.2.2 1 (by decide)).1
theorem yT_k2 {w : zm} {p : Nat} (h : yT w p) : yk w (p + 7) = some (.inr (0, 48)) := (h.2.2.2.2 1 (by decide)).2
theorem yT_b2 {w : zm} {p : Nat} (h : yT w p) : Nat.ble 1000 (p + 7) = true := Nat.ble_eq_true_of_le (by have := h.1; unfold yTop at this; omega)
theorem yT_r3 {w : zm} {p : Nat} (h : yT w p) : yR w p 3 = some (p + 8) := (h.2.2.2.2 2 (by decide)).1
theorem yT_k3 {w : zm} {p : Nat} (h : yT w p) : yk w (p + 8) = some (.inr (0, 48)) := (h.2.2.2.2 2 (by decide)).2
theorem yT_b3 {w : zm} {p : Nat} (h : yT w p) : Nat.ble 1000 (p + 8) = true := Nat.ble_eq_true_of_le (by have := h.1; unfold yTop at this; omega)
theorem yT_r4 {w : zm} {p : Nat} (h : yT w p) : yR w p 4 = some (p + 9) := (h.2.2.2.2 3 (by decide)).1
theorem yT_k4 {w : zm} {p : Nat} (h : yT w p) : yk w (p + 9) = some (.inr (4, 4)) := (h.2.2.2.2 3 (by decide)).2
theorem yT_b4 {w : zm} {p : Nat} (h : yT w p) : Nat.ble 1000 (p + 9) = true := Nat.ble_eq_true_of_le (by have := h.1; unfold yTop at this; omega)
