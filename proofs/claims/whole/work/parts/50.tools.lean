/-! numbers: an int that is a natural number -/
theorem n_lit (k : Nat) : (OfNat.ofNat k : Int32) = Int32.ofNat k := rfl
theorem n_toInt {n : Nat} (h : n < 2147483648) : (Int32.ofNat n).toInt = (n : Int) := Int32.toInt_ofNat_of_lt h
theorem n_cl {n : Nat} (h : n < 2147483648) : (Int32.ofNat n).toNatClampNeg = n := Int32.toNatClampNeg_ofNat_of_lt h
theorem n_lt {a b : Nat} (ha : a < 2147483648) (hb : b < 2147483648) : (Int32.ofNat a < Int32.ofNat b) = (a < b) := by
  rw [Int32.lt_iff_toInt_lt, n_toInt ha, n_toInt hb]
  exact propext Int.ofNat_lt
theorem n_eq {a b : Nat} (ha : a < 2147483648) (hb : b < 2147483648) : (Int32.ofNat a = Int32.ofNat b) = (a = b) := by
  apply propext
  constructor
  · intro h
    have := congrArg Int32.toNatClampNeg h
    rwa [n_cl ha, n_cl hb] at this
  · intro h
    rw [h]
theorem n_add (a b : Nat) : Int32.ofNat a + Int32.ofNat b = Int32.ofNat (a + b) := (Int32.ofNat_add a b).symm
theorem n_sub {a b : Nat} (h : b ≤ a) : Int32.ofNat a - Int32.ofNat b = Int32.ofNat (a - b) := (Int32.ofNat_sub a b h).symm
theorem n_neg {n : Nat} (h : n < 2147483648) : (Int32.ofNat n < 0) = False := by
  have : (Int32.ofNat n < Int32.ofNat 0) = (n < 0) := n_lt h (by decide)
  rw [show (0 : Int32) = Int32.ofNat 0 from rfl, this]
  exact eq_false (Nat.not_lt_zero n)
theorem n_m1 {n : Nat} (h : n < 2147483648) : (Int32.ofNat n = -1) = False := by
  apply eq_false
  intro k
  have := congrArg Int32.toInt k
  rw [n_toInt h, show (-1 : Int32).toInt = -1 from by decide] at this
  omega
theorem n_of {x : Int32} (h : ¬ x < 0) : ∃ n, n < 2147483648 ∧ x = Int32.ofNat n := by
  have h0 : 0 ≤ x := Int32.not_lt.mp h
  refine ⟨x.toNatClampNeg, ?_, (Int32.ofNat_toNatClampNeg x h0).symm⟩
  rw [← Int32.toNat_toInt]
  have := Int32.toInt_lt x
  omega
theorem n_in {a n : Nat} (h : a < n) (hn : n < 2147483648) : zin (Int32.ofNat a) n := by
  refine ⟨?_, ?_⟩
  · rw [n_neg (by omega)]
    exact id
  · rw [n_cl (by omega)]
    exact h
theorem n_toInt0 {x : Int32} (h : ¬ x < 0) : 0 ≤ x.toInt := by
  have := Int32.not_lt.mp h
  rw [Int32.le_iff_toInt_le] at this
  simpa using this
theorem n_mod {n : Nat} (h : n < 2147483648) : Int32.ofNat n - Int32.ofNat n / Int32.ofNat 200 * Int32.ofNat 200 = Int32.ofNat (n % 200) := by
  apply Int32.toInt_inj.mp
  have e1 : (Int32.ofNat n / Int32.ofNat 200).toInt = ((n / 200 : Nat) : Int) := by
    rw [Int32.toInt_div, n_toInt h, n_toInt (by decide : 200 < 2147483648), Int.tdiv_eq_ediv_of_nonneg (by omega)]
    rw [Int.bmod_eq_of_le (by omega) (by omega)]
    omega
  have e2 : Int32.ofNat n / Int32.ofNat 200 = Int32.ofNat (n / 200) := by
    apply Int32.toInt_inj.mp
    rw [e1, n_toInt (by omega)]
  rw [e2]
  have e3 : Int32.ofNat (n / 200) * Int32.ofNat 200 = Int32.ofNat (n / 200 * 200) := (Int32.ofNat_mul _ _).symm
  rw [e3, n_sub (by omega), n_toInt (by omega), n_toInt (by omega)]
  omega
theorem n_and {x : Int32} (k : Nat) (hk : k < 2147483648) : ∃ n, n ≤ k ∧ x &&& Int32.ofNat k = Int32.ofNat n := by
  have e : x &&& Int32.ofNat k = Int32.ofBitVec (x.toBitVec &&& BitVec.ofNat 32 k) := by
    apply Int32.toBitVec_inj.mp
    simp [Int32.toBitVec_and]
  refine ⟨(x.toBitVec &&& BitVec.ofNat 32 k).toNat, ?_, ?_⟩
  · rw [BitVec.toNat_and]
    refine Nat.le_trans Nat.and_le_right ?_
    rw [BitVec.toNat_ofNat]
    exact Nat.mod_le _ _
  · rw [e]
    apply Int32.toBitVec_inj.mp
    show x.toBitVec &&& BitVec.ofNat 32 k = (Int32.ofNat _).toBitVec
    rw [Int32.toBitVec_ofNat', BitVec.ofNat_toNat]
    simp
/-! rows -/
theorem upd_same (f : Nat → Int32) (k : Nat) (x : Int32) : upd f k x k = x := by simp [upd]
theorem upd_ne (f : Nat → Int32) {k j : Nat} (x : Int32) (h : j ≠ k) : upd f k x j = f j := by simp [upd, h]
theorem upd_comm (f : Nat → Int32) {k j : Nat} (x v : Int32) (h : j ≠ k) : upd (upd f k x) j v = upd (upd f j v) k x := by
  funext i
  unfold upd
  by_cases h1 : i = j
  · rw [if_pos h1, if_neg (fun h2 => h (h1.symm.trans h2)), if_pos h1]
  · rw [if_neg h1]
    by_cases h2 : i = k
    · rw [if_pos h2, if_pos h2]
    · rw [if_neg h2, if_neg h2, if_neg h1]
theorem upd_upd (f : Nat → Int32) (k : Nat) (x v : Int32) : upd (upd f k x) k v = upd f k v := by
  funext i
  unfold upd
  by_cases h : i = k
  · rw [if_pos h, if_pos h]
  · rw [if_neg h, if_neg h, if_neg h]
theorem upd_id (f : Nat → Int32) (k : Nat) : upd f k (f k) = f := by
  funext i
  unfold upd
  by_cases h : i = k
  · rw [if_pos h, h]
  · rw [if_neg h]
