/-! the model ends a recording: the pure way -/
section FINN
variable {d : Nat} {c : zm} {s : ms} {th : Nat} {pn : Int32} {X : xs} {sl : Nat → Option Nat} {N : Nat} {H : Nat → Option Nat}
theorem RMt.new {A A' : Nat → Nat → Int32} {X' : xs} {t hd : Nat} {T' : tr} (R : RMt A X sl) (ht : t < 16) (hs : sl t = none) (hh : hd < 200) (hN : xT X hd = none) (S : sfr A A' t) (h9 : A' 1039 = upd (A 1039) t (Int32.ofNat hd)) (hX : xT X' = nSet (xT X) hd (some T')) (hC : xC X' = xC X) (hT : tHm (xC X) A' t T') : RMt A' X' (nSet sl t (some hd)) := by
  obtain ⟨r1, r2, r3, r4, r5⟩ := R
  have no : ∀ t', t' < 16 → ¬ sl t' = some hd := by
    intro t' h1 h2
    obtain ⟨z1, T, z2, -⟩ := r3 t' hd h1 h2
    rw [hN] at z2
    cases z2
  refine ⟨fun t' ht' => ?_, fun t1 t2 a h1 h2 e1 e2 => ?_, fun t' a ht' ha => ?_, fun a T ha => ?_, ?_⟩
  · rw [h9]
    by_cases e : t' = t
    · rw [e, upd_same, nSet_same]
      rfl
    · rw [upd_ne _ _ e, nSet_ne _ _ e]
      exact r1 t' ht'
  · by_cases c1 : t1 = t
    · by_cases c2 : t2 = t
      · omega
      · rw [c1, nSet_same] at e1
        cases e1
        rw [nSet_ne _ _ c2] at e2
        exact absurd e2 (no t2 h2)
    · rw [nSet_ne _ _ c1] at e1
      by_cases c2 : t2 = t
      · rw [c2, nSet_same] at e2
        cases e2
        exact absurd e1 (no t1 h1)
      · rw [nSet_ne _ _ c2] at e2
        exact r2 t1 t2 a h1 h2 e1 e2
  · rw [hX, hC]
    by_cases e : t' = t
    · rw [e, nSet_same] at ha
      cases ha
      rw [nSet_same, e]
      exact ⟨hh, T', rfl, hT⟩
    · rw [nSet_ne _ _ e] at ha
      obtain ⟨z1, T, z2, z3⟩ := r3 t' a ht' ha
      have hne : a ≠ hd := by
        intro z
        rw [z] at ha
        exact no t' ht' ha
      rw [nSet_ne _ _ hne]
      exact ⟨z1, T, z2, tHm_fr z3 S e⟩
  · rw [hX] at ha
    by_cases e : a = hd
    · exact ⟨t, ht, by rw [nSet_same, e]⟩
    · rw [nSet_ne _ _ e] at ha
      obtain ⟨t', z1, z2⟩ := r4 a T ha
      refine ⟨t', z1, ?_⟩
      rw [nSet_ne _ _ (fun z => by rw [z, hs] at z2; cases z2)]
      exact z2
  · have e1 : cN (fun i => (nSet sl t (some hd) i).isSome) 16 = cN (fun i => (sl i).isSome) 16 + 1 := by
      refine cN_flip (a := t) ?_ ?_ (fun i hi => ?_) 16 ht
      · rw [hs]; rfl
      · rw [nSet_same]; rfl
      · rw [nSet_ne _ _ hi]
    have e2 : xMany X' = xMany X + 1 := by
      unfold xMany
      rw [hX]
      refine cN_flip (a := hd) ?_ ?_ (fun i hi => ?_) 200 hh
      · rw [hN]; rfl
      · rw [nSet_same]; rfl
      · rw [nSet_ne _ _ hi]
    rw [e1, e2, r5]
theorem tHm_bridge {cd : Nat → Int32} {A A2 A' : Nat → Nat → Int32} {t j : Nat} {T : tr} {P : pth} (h : tHm cd A t T) (hj : j < 48) (hn : tNb T < 4) (hP : pLn P ≤ 48)
    (k2 : A2 = y1 (y1 (y1 (y1 (y1 (y1 A 1048 (upd (A 1048) t (Int32.ofNat (tNb T + 1)))) 1052 (upd (A 1052) (t * 48 + j) (Int32.ofNat (t * 4 + tNb T)))) 1053 (upd (A 1053) (t * 4 + tNb T) (Int32.ofNat (pLn P)))) 1056 (upd (A 1056) (t * 4 + tNb T) (Int32.ofNat (pGs cd P)))) 1057 (upd (A 1057) (t * 4 + tNb T) (Int32.ofNat (nNw (pV cd P))))) 1058 (upd (A 1058) (t * 4 + tNb T) (Int32.ofNat (nFo (pV cd P)))))
    (k3 : ∀ p, p ≠ 1054 → p ≠ 1055 → A' p = A2 p) (k4 : ∀ i, i < pLn P → A' 1055 ((t * 4 + tNb T) * 48 + i) = pGo P i) (k5 : ∀ i, (i < (t * 4 + tNb T) * 48 ∨ (t * 4 + tNb T) * 48 + 48 ≤ i) → A' 1055 i = A 1055 i) : tHm cd A' t (tBridge j P T) := by
  obtain ⟨h1, h2, h3, h4, h5, h6, h7, h8, h9, h10, h11, h12, h13, h14⟩ := h
  refine ⟨?_, ?_, ?_, ?_, ?_, ?_, ?_, fun i hi => ?_, fun i hi => ?_, hn, fun i hi => ?_, h12, h13, fun i hi => ?_⟩
  · rw [k3 1040 (by decide) (by decide), k2]; exact h1
  · rw [k3 1043 (by decide) (by decide), k2]; exact h2
  · rw [k3 1044 (by decide) (by decide), k2]; exact h3
  · rw [k3 1045 (by decide) (by decide), k2]; exact h4
  · rw [k3 1046 (by decide) (by decide), k2]; exact h5
  · rw [k3 1047 (by decide) (by decide), k2]; exact h6
  · rw [k3 1048 (by decide) (by decide), k2]
    exact upd_same _ _ _
  · rw [k3 1041 (by decide) (by decide), k3 1042 (by decide) (by decide), k2]; exact h8 i hi
  · rw [k3 1049 (by decide) (by decide), k3 1050 (by decide) (by decide), k3 1051 (by decide) (by decide), k3 1052 (by decide) (by decide), k2]
    obtain ⟨q1, q2, q3, q4⟩ := h9 i hi
    refine ⟨q1, q2, q3, ?_⟩
    show upd (A 1052) (t * 48 + j) (Int32.ofNat (t * 4 + tNb T)) (t * 48 + i) = gbo t (nSet (tBr T) j (some (tNb T)) i)
    by_cases e : i = j
    · rw [e, upd_same, nSet_same]
      rfl
    · rw [upd_ne _ _ (by omega), nSet_ne _ _ e]
      exact q4
  · have hi : i < tNb T + 1 := hi
    show bHm cd A' (t * 4 + i) (nSet (tBp T) (tNb T) P i)
    unfold bHm
    rw [k3 1053 (by decide) (by decide), k3 1056 (by decide) (by decide), k3 1057 (by decide) (by decide), k3 1058 (by decide) (by decide), k2]
    by_cases e : i = tNb T
    · rw [e, nSet_same]
      exact ⟨upd_same _ _ _, upd_same _ _ _, upd_same _ _ _, upd_same _ _ _, k4⟩
    · rw [nSet_ne _ _ e]
      obtain ⟨b1, b2, b3, b4, b5⟩ := h11 i (by omega)
      have hl := h14 i (by omega)
      refine ⟨(upd_ne _ _ (by omega)).trans b1, (upd_ne _ _ (by omega)).trans b2, (upd_ne _ _ (by omega)).trans b3, (upd_ne _ _ (by omega)).trans b4, fun q hq => ?_⟩
      rw [k5 _ (by omega)]
      exact b5 q hq
  · have hi : i < tNb T + 1 := hi
    show pLn (nSet (tBp T) (tNb T) P i) ≤ 48
    by_cases e : i = tNb T
    · rw [e, nSet_same]; exact hP
    · rw [nSet_ne _ _ e]; exact h14 i (by omega)
set_option maxHeartbeats 1000000 in
theorem c9_finish {F : zm → Prop} (R : RM th pn s X) (G : xGood N H X) {r : rk} (hr : xR X = some r) (k : ∀ s', RM th pn s' (xFin X) → F (put c s')) : zGo (d + 5) m_X9_finish 0 [.ref 1031, zJ, zJ, zJ] [] (yz (put c s)) (zKv F) := by
  obtain ⟨sl, Ra, Rr, Rt⟩ := R
  rw [hr] at Rr
  obtain ⟨q1, q2, q3, q4, q5, q6⟩ := Rr
  have V := G.1
  obtain ⟨r1, r2, r3, r4, ⟨r0, s1, s2, s3, s4⟩, r6⟩ := G.2.2.2.2.2 r hr
  obtain ⟨hB, hB2, hB3⟩ := pOk.bd V r1 r3 r4
  have hC : sA s 1032 = xC X := Ra.2.2.2.2.2.2.2.2.2.2.1
  have hgs := hB.2.1
  refine B_X9_finish_0 ?_
  refine c9_findValues hC V r4 r3 r1 (fun i hi => rec_fine V r4 r3 r1 s1 s2 s3 hi) q4 q5 (fun i hi => (q6 i hi).1) (fun I' A' M => ?_)
  obtain ⟨⟨m1, m2, m3, m4, m5, m6, m7, m8, m9⟩, -⟩ := M
  have Ra1 : RMa th pn (sov s I' A') X := Ra.sov I' A'
  have Rt1 : RMt (sA (sov s I' A')) X sl := Rt.keep (tmk_sov I' A') rfl rfl
  have f42 : sI (sov s I' A') 42 = Int32.ofNat r.1 := q2
  have f46 : sI (sov s I' A') 46 = Int32.ofNat (pLn r.2.2) := q5
  have f51 : sI (sov s I' A') 51 = Int32.ofNat (pGs (xC X) r.2.2) := m3
  have f52 : sI (sov s I' A') 52 = Int32.ofNat (nNw (pV (xC X) r.2.2)) := m4
  have f53 : sI (sov s I' A') 53 = Int32.ofNat (nFo (pV (xC X) r.2.2)) := m5
  have f59 : ∀ i, i < pLn r.2.2 → sA (sov s I' A') 1059 i = Int32.ofNat (pAd r.2.2 i) ∧ sA (sov s I' A') 1060 i = pGo r.2.2 i := q6
  have f63 : ∀ i, i < pGs (xC X) r.2.2 → sA (sov s I' A') 1063 i = Int32.ofNat (pGa (xC X) r.2.2 i) := m9
  have f43 : match r.2.1 with
      | none => sI (sov s I' A') 43 = -1
      | some k => k < 48 ∧ ∃ t, t < 16 ∧ sl t = some r.1 ∧ sI (sov s I' A') 43 = Int32.ofNat t ∧ sI (sov s I' A') 44 = Int32.ofNat k := q3
  rw [show yM c s I' A' = put c (sov s I' A') from rfl]
  generalize sov s I' A' = s9 at *
  unfold xFin at k
  rw [hr] at k
  dsimp only at k
  have y43 : yI (put c s9) 1031 43 = sI s9 43 := rfl
  have y44 : yI (put c s9) 1031 44 = sI s9 44 := rfl
  cases hk : r.2.1 with
  | none =>
    rw [hk] at f43 k r6
    dsimp only at f43 k r6
    rw [y43, f43]
    refine ⟨fun _ => ?_, fun z => absurd (show (-1 : Int32) < 0 by decide) z⟩
    refine c9_free Rt1 r6.2.1 (fun t ht hs => ?_)
    rw [n_cl (by omega)]
    have hz : zin (Int32.ofNat t) 16 := n_in ht (by decide)
    refine ⟨hz, hz, hz, hz, hz, hz, hz, hz, ?_⟩
    rw [show yI (put c s9) 1031 42 = Int32.ofNat r.1 from f42, show yI (put c s9) 1031 46 = Int32.ofNat (pLn r.2.2) from f46, show yI (put c s9) 1031 51 = Int32.ofNat (pGs (xC X) r.2.2) from f51, show yI (put c s9) 1031 52 = Int32.ofNat (nNw (pV (xC X) r.2.2)) from f52, show yI (put c s9) 1031 53 = Int32.ofNat (nFo (pV (xC X) r.2.2)) from f53]
    rw [p_A _ _ _ _ _ rfl, p_A _ _ _ _ _ rfl, p_A _ _ _ _ _ rfl, p_A _ _ _ _ _ rfl, p_A _ _ _ _ _ rfl, p_A _ _ _ _ _ rfl, p_A _ _ _ _ _ rfl, p_A _ _ _ _ _ rfl]
    have Ra2 := (((((((Ra1.A (p := 1039) (upd (sA s9 1039) t (Int32.ofNat r.1)) (by decide)).A (p := 1040) (upd (sA s9 1040) t (Int32.ofNat (pLn r.2.2))) (by decide)).A (p := 1043) (upd (sA s9 1043) t (Int32.ofNat (pGs (xC X) r.2.2))) (by decide)).A (p := 1044) (upd (sA s9 1044) t (Int32.ofNat (nNw (pV (xC X) r.2.2)))) (by decide)).A (p := 1045) (upd (sA s9 1045) t (Int32.ofNat (nFo (pV (xC X) r.2.2)))) (by decide)).A (p := 1046) (upd (sA s9 1046) t 0) (by decide)).A (p := 1047) (upd (sA s9 1047) t 0) (by decide)).A (p := 1048) (upd (sA s9 1048) t 0) (by decide)
    have S2 : sfr (sA s9) (y1 (y1 (y1 (y1 (y1 (y1 (y1 (y1 (sA s9) 1039 (upd (sA s9 1039) t (Int32.ofNat r.1))) 1040 (upd (sA s9 1040) t (Int32.ofNat (pLn r.2.2)))) 1043 (upd (sA s9 1043) t (Int32.ofNat (pGs (xC X) r.2.2)))) 1044 (upd (sA s9 1044) t (Int32.ofNat (nNw (pV (xC X) r.2.2))))) 1045 (upd (sA s9 1045) t (Int32.ofNat (nFo (pV (xC X) r.2.2))))) 1046 (upd (sA s9 1046) t 0)) 1047 (upd (sA s9 1047) t 0)) 1048 (upd (sA s9 1048) t 0)) t :=
      (((((((sfr_upd _ (p0 := 1039) (i0 := t) _ (Or.inr (Or.inl (by decide)))).trans (sfr_upd _ (p0 := 1040) (i0 := t) _ (Or.inl (slo1 (by decide))))).trans (sfr_upd _ (p0 := 1043) (i0 := t) _ (Or.inl (slo1 (by decide))))).trans (sfr_upd _ (p0 := 1044) (i0 := t) _ (Or.inl (slo1 (by decide))))).trans (sfr_upd _ (p0 := 1045) (i0 := t) _ (Or.inl (slo1 (by decide))))).trans (sfr_upd _ (p0 := 1046) (i0 := t) _ (Or.inl (slo1 (by decide))))).trans (sfr_upd _ (p0 := 1047) (i0 := t) _ (Or.inl (slo1 (by decide))))).trans (sfr_upd _ (p0 := 1048) (i0 := t) _ (Or.inl (slo1 (by decide))))
    refine c9_fin90 ht r1 f46 Ra2 (fun s3 Ra3 i3 a3 S3 w3 => ?_)
    refine c9_fin140 ht hgs (by rw [i3]; exact f51) Ra3 (fun s4 Ra4 a4 S4 w4 => ?_)
    refine k _ ⟨nSet sl t (some r.1), (Ra4.I (b := 42) (-1) (by decide)).xx ⟨_, _, rfl⟩, rfl, ?_⟩
    have e4 : ∀ p, (p < 1041 ∨ (1043 ≤ p ∧ p ≤ 1048)) → sA s4 p = _ := fun p hp => (a4 p (by omega)).trans (a3 p (by omega) (by omega))
    refine Rt1.new (T' := tNew r.2.2) ht hs q1 r6.1 ((S2.trans S3).trans S4) ?_ rfl rfl ?_
    · show sA s4 1039 = _
      rw [e4 1039 (by decide)]
      rfl
    · show tHm (xC X) (sA s4) t (tNew r.2.2)
      refine ⟨?_, ?_, ?_, ?_, ?_, ?_, ?_, fun i hi => ?_, fun i hi => ?_, Nat.zero_le _, fun j hj => absurd hj (Nat.not_lt_zero j), r1, hgs, fun j hj => absurd hj (Nat.not_lt_zero j)⟩
      · rw [e4 1040 (by decide)]; exact upd_same _ _ _
      · rw [e4 1043 (by decide)]; exact upd_same _ _ _
      · rw [e4 1044 (by decide)]; exact upd_same _ _ _
      · rw [e4 1045 (by decide)]; exact upd_same _ _ _
      · rw [e4 1046 (by decide)]; exact upd_same _ _ _
      · rw [e4 1047 (by decide)]; exact upd_same _ _ _
      · rw [e4 1048 (by decide)]; exact upd_same _ _ _
      · rw [a4 1041 (by decide), a4 1042 (by decide), (w3 i hi).1, (w3 i hi).2]
        exact f59 i hi
      · obtain ⟨z1, z2, z3, z4⟩ := w4 i hi
        rw [z1, z2, z3, z4, a3 1063 (by decide) (by decide)]
        exact ⟨f63 i hi, rfl, rfl, rfl⟩
  | some j =>
    rw [hk] at f43 k r6
    dsimp only at f43 k r6
    obtain ⟨hj, t, t1, t2, t3, t4⟩ := f43
    obtain ⟨T, u1, u2, u3, u4, u5⟩ := r6
    obtain ⟨z1, T', z2, z3⟩ := Rt1.2.2.1 t r.1 t1 t2
    rw [u1] at z2
    cases z2
    have e48 : yA (put c s9) 1048 t = Int32.ofNat (tNb T) := z3.2.2.2.2.2.2.1
    rw [y43, y44, t3, t4, n_neg (by omega), n_48, n_cl (by omega), e48, n_4, n_cl (by omega), n_cl (by omega), show (Int32.ofNat (tNb T) + 1 : Int32) = Int32.ofNat (tNb T + 1) from n_add _ 1]
    have hz : zin (Int32.ofNat t) 16 := n_in t1 (by decide)
    have hz4 : zin (Int32.ofNat (t * 4 + tNb T)) 64 := n_in (by omega) (by decide)
    refine ⟨fun z => z.elim, fun _ => ⟨hz, hz, hz, n_in (by omega) (by decide), hz4, hz4, hz4, hz4, ?_⟩⟩
    rw [show yI (put c s9) 1031 46 = Int32.ofNat (pLn r.2.2) from f46, show yI (put c s9) 1031 51 = Int32.ofNat (pGs (xC X) r.2.2) from f51, show yI (put c s9) 1031 52 = Int32.ofNat (nNw (pV (xC X) r.2.2)) from f52, show yI (put c s9) 1031 53 = Int32.ofNat (nFo (pV (xC X) r.2.2)) from f53]
    rw [p_A _ _ _ _ _ rfl, p_A _ _ _ _ _ rfl, p_A _ _ _ _ _ rfl, p_A _ _ _ _ _ rfl, p_A _ _ _ _ _ rfl, p_A _ _ _ _ _ rfl]
    have Ra2 := (((((Ra1.A (p := 1048) (upd (sA s9 1048) t (Int32.ofNat (tNb T + 1))) (by decide)).A (p := 1052) (upd (sA s9 1052) (t * 48 + j) (Int32.ofNat (t * 4 + tNb T))) (by decide)).A (p := 1053) (upd (sA s9 1053) (t * 4 + tNb T) (Int32.ofNat (pLn r.2.2))) (by decide)).A (p := 1056) (upd (sA s9 1056) (t * 4 + tNb T) (Int32.ofNat (pGs (xC X) r.2.2))) (by decide)).A (p := 1057) (upd (sA s9 1057) (t * 4 + tNb T) (Int32.ofNat (nNw (pV (xC X) r.2.2)))) (by decide)).A (p := 1058) (upd (sA s9 1058) (t * 4 + tNb T) (Int32.ofNat (nFo (pV (xC X) r.2.2)))) (by decide)
    have S2 : sfr (sA s9) (y1 (y1 (y1 (y1 (y1 (y1 (sA s9) 1048 (upd (sA s9 1048) t (Int32.ofNat (tNb T + 1)))) 1052 (upd (sA s9 1052) (t * 48 + j) (Int32.ofNat (t * 4 + tNb T)))) 1053 (upd (sA s9 1053) (t * 4 + tNb T) (Int32.ofNat (pLn r.2.2)))) 1056 (upd (sA s9 1056) (t * 4 + tNb T) (Int32.ofNat (pGs (xC X) r.2.2)))) 1057 (upd (sA s9 1057) (t * 4 + tNb T) (Int32.ofNat (nNw (pV (xC X) r.2.2))))) 1058 (upd (sA s9 1058) (t * 4 + tNb T) (Int32.ofNat (nFo (pV (xC X) r.2.2))))) t :=
      (((((sfr_upd _ (p0 := 1048) (i0 := t) _ (Or.inl (slo1 (by decide)))).trans (sfr_upd _ (p0 := 1052) (i0 := t * 48 + j) _ (Or.inl (slo48 (by decide) hj)))).trans (sfr_upd _ (p0 := 1053) (i0 := t * 4 + tNb T) _ (Or.inl (slo4 (by decide) u4)))).trans (sfr_upd _ (p0 := 1056) (i0 := t * 4 + tNb T) _ (Or.inl (slo4 (by decide) u4)))).trans (sfr_upd _ (p0 := 1057) (i0 := t * 4 + tNb T) _ (Or.inl (slo4 (by decide) u4)))).trans (sfr_upd _ (p0 := 1058) (i0 := t * 4 + tNb T) _ (Or.inl (slo4 (by decide) u4)))
    refine c9_fin287 t1 u4 r1 f46 Ra2 (fun s3 Ra3 a3 S3 w3 w4 => ?_)
    refine k _ ⟨sl, (Ra3.I (b := 42) (-1) (by decide)).xx ⟨_, _, rfl⟩, rfl, ?_⟩
    refine Rt1.set (T' := tBridge j r.2.2 T) t1 t2 (S2.trans S3) ?_ ?_ rfl ?_
    · show sA s3 1039 = sA s9 1039
      rw [a3 1039 (by decide) (by decide)]
      rfl
    · show nSet (xT X) r.1 ((xT X r.1).map (tBridge j r.2.2)) = _
      rw [u1]
      rfl
    · exact tHm_bridge (A' := sA s3) z3 hj u4 r1 rfl a3 (fun i hi => (w3 i hi).trans (f59 i hi).2) w4
end FINN
