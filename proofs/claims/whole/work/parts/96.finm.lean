/-! the model ends a recording -/
section FINM
variable {d : Nat} {c : zm} {s : ms} {th : Nat} {pn : Int32} {X : xs} {sl : Nat → Option Nat} {N : Nat} {H : Nat → Option Nat}
theorem RMa.sov (R : RMa th pn s X) (I : Nat → Int32) (A : Nat → Nat → Int32) : RMa th pn (sov s I A) X := by
  obtain ⟨a1, a2, a3, a4, a5, a6, a7, a8, a9, a10, a11, a12, a13, a14, a15, a16, a17, a18, a19, a20, a21, a22⟩ := R
  exact ⟨a1, a2, a3, a4, a5, a6, a7, a8, a9, a10, a11, a12, a13, a14, a15, a16, a17, a18, a19, a20, a21, a22⟩
theorem tmk_sov (I : Nat → Int32) (A : Nat → Nat → Int32) : tmk (sA s) (sA (sov s I A)) := by
  intro p h1 h2
  show (bif mSA p then A p else sA s p) = sA s p
  have : mSA p = false := by
    unfold mSA
    have : Nat.ble 1063 p = false := by
      cases e : Nat.ble 1063 p with
      | false => rfl
      | true => have := Nat.le_of_ble_eq_true e; omega
    rw [this, Bool.false_and]
  rw [this]
  rfl
theorem c9_fin90 {F : zm → Prop} {t len : Nat} (ht : t < 16) (hl : len ≤ 48) (e46 : sI s 46 = Int32.ofNat len) (Ra : RMa th pn s X)
    (k : ∀ s', RMa th pn s' X → sI s' = sI s → (∀ p, p ≠ 1041 → p ≠ 1042 → sA s' p = sA s p) → sfr (sA s) (sA s') t → (∀ i, i < len → sA s' 1041 (t * 48 + i) = sA s 1059 i ∧ sA s' 1042 (t * 48 + i) = sA s 1060 i) → zGo (d + 1) m_X9_finish 140 [.ref 1031, .int (Int32.ofNat t), .int (Int32.ofNat 0), zJ] [] (yz (put c s')) (zKv F)) :
    zGo (d + 1) m_X9_finish 90 [.ref 1031, .int (Int32.ofNat t), .int (Int32.ofNat 0), zJ] [] (yz (put c s)) (zKv F) := by
  have loop : ∀ (j i : Nat) (s' : ms), i + j = len → RMa th pn s' X → sI s' = sI s → (∀ p, p ≠ 1041 → p ≠ 1042 → sA s' p = sA s p) → sfr (sA s) (sA s') t → (∀ q, q < i → sA s' 1041 (t * 48 + q) = sA s 1059 q ∧ sA s' 1042 (t * 48 + q) = sA s 1060 q) → zGo (d + 1) m_X9_finish 90 [.ref 1031, .int (Int32.ofNat t), .int (Int32.ofNat i), zJ] [] (yz (put c s')) (zKv F) := by
    intro j
    induction j with
    | zero =>
      intro i s' hi Ra' h1 h2 h3 h4
      have hi : i = len := by omega
      subst hi
      refine B_X9_finish_90 _ _ ?_
      rw [show yI (put c s') 1031 46 = Int32.ofNat i from by rw [← e46, ← h1]; rfl, n_lt (by omega) (by omega)]
      exact ⟨fun z => absurd z (by omega), fun _ => k s' Ra' h1 h2 h3 h4⟩
    | succ j ih =>
      intro i s' hi Ra' h1 h2 h3 h4
      refine B_X9_finish_90 _ _ ?_
      rw [show yI (put c s') 1031 46 = Int32.ofNat len from by rw [← e46, ← h1]; rfl, n_lt (by omega) (by omega), n_48, n_cl (by omega), n_cl (by omega), show (Int32.ofNat i + 1 : Int32) = Int32.ofNat (i + 1) from n_add _ 1]
      refine ⟨fun _ => ⟨n_in (by omega) (by decide), n_in (by omega) (by decide), n_in (by omega) (by decide), n_in (by omega) (by decide), ?_⟩, fun z => absurd (by omega) z⟩
      rw [show yA (put c s') 1059 = sA s' 1059 from rfl, show yA (put c s') 1060 = sA s' 1060 from rfl, p_A _ _ _ _ _ rfl, p_A _ _ _ _ _ rfl, h2 1059 (by decide) (by decide), h2 1060 (by decide) (by decide)]
      refine ih (i + 1) _ (by omega) ((Ra'.A (p := 1041) _ (by decide)).A (p := 1042) _ (by decide)) h1 (fun p p1 p2 => ?_) (h3.trans ((sfr_upd _ _ (Or.inl (slo48 (by decide) (by omega)))).trans (sfr_upd _ _ (Or.inl (slo48 (by decide) (by omega)))))) (fun q hq => ?_)
      · show y1 (y1 (sA s') 1041 _) 1042 _ p = sA s p
        rw [y1_ne _ _ p2, y1_ne _ _ p1]
        exact h2 p p1 p2
      · show upd (sA s' 1041) (t * 48 + i) (sA s 1059 i) (t * 48 + q) = _ ∧ upd (sA s' 1042) (t * 48 + i) (sA s 1060 i) (t * 48 + q) = _
        by_cases e : q = i
        · rw [e, upd_same, upd_same]
          exact ⟨rfl, rfl⟩
        · rw [upd_ne _ _ (by omega), upd_ne _ _ (by omega)]
          exact h4 q (by omega)
  exact loop len 0 s (by omega) Ra rfl (fun _ _ _ => rfl) (sfr.rf _ _) (fun q hq => absurd hq (Nat.not_lt_zero q))
theorem c9_fin140 {F : zm → Prop} {t gs : Nat} (ht : t < 16) (hl : gs ≤ 48) (e51 : sI s 51 = Int32.ofNat gs) (Ra : RMa th pn s X)
    (k : ∀ s', RMa th pn s' X → (∀ p, (p < 1049 ∨ 1052 < p) → sA s' p = sA s p) → sfr (sA s) (sA s') t → (∀ i, i < gs → sA s' 1049 (t * 48 + i) = sA s 1063 i ∧ sA s' 1050 (t * 48 + i) = 0 ∧ sA s' 1051 (t * 48 + i) = 0 ∧ sA s' 1052 (t * 48 + i) = -1) → F (put c (tI s' 42 (-1)))) :
    zGo (d + 1) m_X9_finish 140 [.ref 1031, .int (Int32.ofNat t), .int (Int32.ofNat 0), zJ] [] (yz (put c s)) (zKv F) := by
  have loop : ∀ (j i : Nat) (s' : ms) (ua : Value), zisL ua = false → i + j = gs → RMa th pn s' X → sI s' = sI s → (∀ p, (p < 1049 ∨ 1052 < p) → sA s' p = sA s p) → sfr (sA s) (sA s') t → (∀ q, q < i → sA s' 1049 (t * 48 + q) = sA s 1063 q ∧ sA s' 1050 (t * 48 + q) = 0 ∧ sA s' 1051 (t * 48 + q) = 0 ∧ sA s' 1052 (t * 48 + q) = -1) → zGo (d + 1) m_X9_finish 140 [.ref 1031, .int (Int32.ofNat t), .int (Int32.ofNat i), ua] [] (yz (put c s')) (zKv F) := by
    intro j
    induction j with
    | zero =>
      intro i s' ua hua hi Ra' h1 h2 h3 h4
      have hi : i = gs := by omega
      subst hi
      refine B_X9_finish_140 _ _ _ hua ?_
      rw [show yI (put c s') 1031 51 = Int32.ofNat i from by rw [← e51, ← h1]; rfl, n_lt (by omega) (by omega), p_I]
      exact ⟨fun z => absurd z (by omega), fun _ => k s' Ra' h2 h3 h4⟩
    | succ j ih =>
      intro i s' ua hua hi Ra' h1 h2 h3 h4
      refine B_X9_finish_140 _ _ _ hua ?_
      rw [show yI (put c s') 1031 51 = Int32.ofNat gs from by rw [← e51, ← h1]; rfl, n_lt (by omega) (by omega), n_48, n_cl (by omega), n_cl (by omega), show (Int32.ofNat i + 1 : Int32) = Int32.ofNat (i + 1) from n_add _ 1]
      refine ⟨fun _ => ⟨n_in (by omega) (by decide), n_in (by omega) (by decide), n_in (by omega) (by decide), n_in (by omega) (by decide), n_in (by omega) (by decide), ?_⟩, fun z => absurd (by omega) z⟩
      rw [show yA (put c s') 1063 = sA s' 1063 from rfl, p_A _ _ _ _ _ rfl, p_A _ _ _ _ _ rfl, p_A _ _ _ _ _ rfl, p_A _ _ _ _ _ rfl, h2 1063 (by decide)]
      refine ih (i + 1) _ _ rfl (by omega) ((((Ra'.A (p := 1049) _ (by decide)).A (p := 1050) _ (by decide)).A (p := 1051) _ (by decide)).A (p := 1052) _ (by decide)) h1 (fun p hp => ?_) (h3.trans ((((sfr_upd _ (p0 := 1049) (i0 := t * 48 + i) _ (Or.inl (slo48 (by decide) (by omega)))).trans (sfr_upd _ (p0 := 1050) (i0 := t * 48 + i) _ (Or.inl (slo48 (by decide) (by omega))))).trans (sfr_upd _ (p0 := 1051) (i0 := t * 48 + i) _ (Or.inl (slo48 (by decide) (by omega))))).trans (sfr_upd _ (p0 := 1052) (i0 := t * 48 + i) _ (Or.inl (slo48 (by decide) (by omega)))))) (fun q hq => ?_)
      · show y1 (y1 (y1 (y1 (sA s') 1049 _) 1050 _) 1051 _) 1052 _ p = sA s p
        rw [y1_ne _ _ (by omega), y1_ne _ _ (by omega), y1_ne _ _ (by omega), y1_ne _ _ (by omega)]
        exact h2 p hp
      · show upd (sA s' 1049) (t * 48 + i) (sA s 1063 i) (t * 48 + q) = _ ∧ upd (sA s' 1050) (t * 48 + i) 0 (t * 48 + q) = _ ∧ upd (sA s' 1051) (t * 48 + i) 0 (t * 48 + q) = _ ∧ upd (sA s' 1052) (t * 48 + i) (-1) (t * 48 + q) = _
        by_cases e : q = i
        · rw [e, upd_same, upd_same, upd_same, upd_same]
          exact ⟨rfl, rfl, rfl, rfl⟩
        · rw [upd_ne _ _ (by omega), upd_ne _ _ (by omega), upd_ne _ _ (by omega), upd_ne _ _ (by omega)]
          exact h4 q (by omega)
  exact loop gs 0 s zJ rfl (by omega) Ra rfl (fun _ _ => rfl) (sfr.rf _ _) (fun q hq => absurd hq (Nat.not_lt_zero q))
theorem slo192 {t j p i : Nat} (hp : p = 1054 ∨ p = 1055) (hj : j < 4) (hi : i < 48) : slo p ((t * 4 + j) * 48 + i) = t := by
  unfold slo
  rw [if_neg (by omega), if_neg (by omega), if_pos hp]
  omega
theorem slo4 {t j p : Nat} (hp : p = 1053 ∨ p = 1056 ∨ p = 1057 ∨ p = 1058) (hj : j < 4) : slo p (t * 4 + j) = t := by
  unfold slo
  rw [if_neg (by omega), if_pos hp]
  omega
theorem slo1 {t p : Nat} (hp : p < 1041 ∨ (1043 ≤ p ∧ p ≤ 1048)) : slo p t = t := by
  unfold slo
  rw [if_neg (by omega), if_neg (by omega), if_neg (by omega)]
theorem c9_fin287 {F : zm → Prop} {t b len : Nat} (ht : t < 16) (hb : b < 4) (hl : len ≤ 48) (e46 : sI s 46 = Int32.ofNat len) (Ra : RMa th pn s X)
    (k : ∀ s', RMa th pn s' X → (∀ p, p ≠ 1054 → p ≠ 1055 → sA s' p = sA s p) → sfr (sA s) (sA s') t → (∀ i, i < len → sA s' 1055 ((t * 4 + b) * 48 + i) = sA s 1060 i) → (∀ i, (i < (t * 4 + b) * 48 ∨ (t * 4 + b) * 48 + 48 ≤ i) → sA s' 1055 i = sA s 1055 i) → F (put c (tI s' 42 (-1)))) :
    zGo (d + 1) m_X9_finish 287 [.ref 1031, .int (Int32.ofNat (t * 4 + b)), .int (Int32.ofNat 0), zJ] [] (yz (put c s)) (zKv F) := by
  have loop : ∀ (j i : Nat) (s' : ms), i + j = len → RMa th pn s' X → sI s' = sI s → (∀ p, p ≠ 1054 → p ≠ 1055 → sA s' p = sA s p) → sfr (sA s) (sA s') t → (∀ q, q < i → sA s' 1055 ((t * 4 + b) * 48 + q) = sA s 1060 q) → (∀ i, (i < (t * 4 + b) * 48 ∨ (t * 4 + b) * 48 + 48 ≤ i) → sA s' 1055 i = sA s 1055 i) → zGo (d + 1) m_X9_finish 287 [.ref 1031, .int (Int32.ofNat (t * 4 + b)), .int (Int32.ofNat i), zJ] [] (yz (put c s')) (zKv F) := by
    intro j
    induction j with
    | zero =>
      intro i s' hi Ra' h1 h2 h3 h4 h5
      have hi : i = len := by omega
      subst hi
      refine B_X9_finish_287 _ _ ?_
      rw [show yI (put c s') 1031 46 = Int32.ofNat i from by rw [← e46, ← h1]; rfl, n_lt (by omega) (by omega), p_I]
      exact ⟨fun z => absurd z (by omega), fun _ => k s' Ra' h2 h3 h4 h5⟩
    | succ j ih =>
      intro i s' hi Ra' h1 h2 h3 h4 h5
      refine B_X9_finish_287 _ _ ?_
      rw [show yI (put c s') 1031 46 = Int32.ofNat len from by rw [← e46, ← h1]; rfl, n_lt (by omega) (by omega), n_48, n_cl (by omega), n_cl (by omega), show (Int32.ofNat i + 1 : Int32) = Int32.ofNat (i + 1) from n_add _ 1]
      refine ⟨fun _ => ⟨n_in (by omega) (by decide), n_in (by omega) (by decide), n_in (by omega) (by decide), n_in (by omega) (by decide), ?_⟩, fun z => absurd (by omega) z⟩
      rw [show yA (put c s') 1059 = sA s' 1059 from rfl, show yA (put c s') 1060 = sA s' 1060 from rfl, p_A _ _ _ _ _ rfl, p_A _ _ _ _ _ rfl, h2 1060 (by decide) (by decide)]
      refine ih (i + 1) _ (by omega) ((Ra'.A (p := 1054) _ (by decide)).A (p := 1055) _ (by decide)) h1 (fun p p1 p2 => ?_) (h3.trans ((sfr_upd _ _ (Or.inl (slo192 (by decide) hb (by omega)))).trans (sfr_upd _ _ (Or.inl (slo192 (by decide) hb (by omega)))))) (fun q hq => ?_) (fun q hq => ?_)
      · show y1 (y1 (sA s') 1054 _) 1055 _ p = sA s p
        rw [y1_ne _ _ p2, y1_ne _ _ p1]
        exact h2 p p1 p2
      · show upd (sA s' 1055) ((t * 4 + b) * 48 + i) (sA s 1060 i) ((t * 4 + b) * 48 + q) = _
        by_cases e : q = i
        · rw [e, upd_same]
        · rw [upd_ne _ _ (by omega)]
          exact h4 q (by omega)
      · show upd (sA s' 1055) ((t * 4 + b) * 48 + i) (sA s 1060 i) q = _
        rw [upd_ne _ _ (by omega)]
        exact h5 q hq
  exact loop len 0 s (by omega) Ra rfl (fun _ _ _ => rfl) (sfr.rf _ _) (fun q hq => absurd hq (Nat.not_lt_zero q)) (fun _ _ => rfl)
end FINM
