/-! the law's beginning: steps on a heap that is still being built -/
def zlk (G : zG) : List (Nat × zE) → zG
  | [] => G
  | q :: L => zset (zlk G L) q.1 q.2
def hL (sz sl : Nat) (G : zG) (L : List (Nat × zE)) : zS := (sz, sl, zlk G L)
def ng (i : Nat) : Nat → Int32 := fun q => if q < i then -1 else 0
section RAW
variable {d y pc pc' : Nat} {ls ls' st st' r : List Value} {h h' : zS} {K K' : zR → zS → Prop}
theorem r_getf {i a b k q p : Nat} {fs : List Value} {v : Value} (he : ztab y pc = some (.getfield i, 3, a, b, k, q)) (hp : pc + 3 = pc') (ho : h.2.2 p = some (.inr (a, fs))) (hv : fs[b]? = some v) (G : zGo d y pc' ls (v :: st) h K) : zGo d y pc ls (.ref p :: st) h K := by
  subst hp
  refine g_s ?_ G
  rw [zs_of he]
  show z_getf a b (pc + 3) ls (.ref p :: st) h = _
  unfold z_getf
  dsimp only
  rw [ho]
  dsimp only
  rw [Nat.beq_refl a, hv]
  rfl
theorem r_iast {e : zI} {i x : Int32} {p n : Nat} {f : Nat → Int32} (he : ztab y pc = some e) (hs : e.1 = .iastore) (hl : e.2.1 = 1) (hp : pc + 1 = pc') (ho : h.2.2 p = some (.inl (0, n, .inl f))) (h1 : Nat.ble 1000 p = true) (hi : zin i n) (G : zGo d y pc' ls r (zput h p (.inl (0, n, .inl (upd f i.toNatClampNeg x)))) K) : zGo d y pc ls (.int x :: .int i :: .ref p :: r) h K := by
  subst hp
  obtain ⟨e1, e2, e3⟩ := e
  dsimp only at hs hl
  subst hs hl
  refine g_s ?_ G
  rw [zs_of he]
  show z_iast (pc + 1) ls (.int x :: .int i :: .ref p :: r) h = _
  unfold z_iast
  dsimp only
  rw [ho]
  dsimp only
  rw [if_neg (zin_st hi h1 rfl)]
theorem zput_self {p : Nat} {e : zE} (hp : h.2.2 p = some e) : zput h p e = h := by
  obtain ⟨a, b, g⟩ := h
  have : zset g p e = g := by
    funext q
    unfold zset
    by_cases c : q = p
    · subst c
      rw [Nat.beq_refl]
      exact hp.symm
    · rw [ybeq c]
      rfl
  show (a, b, zset g p e) = (a, b, g)
  rw [this]
theorem zput_over (p : Nat) (e e' : zE) : zput (zput h p e) p e' = zput h p e' := by
  obtain ⟨a, b, g⟩ := h
  have : zset (zset g p e) p e' = zset g p e' := by
    funext q
    unfold zset
    cases Nat.beq q p <;> rfl
  show (a, b, zset (zset g p e) p e') = (a, b, zset g p e')
  rw [this]
theorem zput_at (h : zS) (p : Nat) (e : zE) : (zput h p e).2.2 p = some e := by
  show zset h.2.2 p e p = _
  unfold zset
  rw [Nat.beq_refl]
  rfl
theorem upd_zero (i : Nat) : upd (fun _ => 0) i 0 = fun _ => (0 : Int32) := by
  funext q
  unfold upd
  split <;> rfl
theorem ng_step (i : Nat) : upd (ng i) i (-1) = ng (i + 1) := by
  funext q
  unfold upd ng
  by_cases c : q = i
  · rw [if_pos c, if_pos (by omega)]
  · rw [if_neg c]
    by_cases c2 : q < i
    · rw [if_pos c2, if_pos (by omega)]
    · rw [if_neg c2, if_neg (by omega)]
theorem ng_zero : ng 0 = fun _ => 0 := by
  funext q
  unfold ng
  rw [if_neg (Nat.not_lt_zero q)]
/-- the cell of the script -/
theorem r_cell {ns : Nat} {f : Nat → Int32} (h0 : h.2.2 0 = some (.inl (9, ns, .inl f))) (hn : ns < 2147483648) (k : K (.inl (some (.int (if 0 < ns then f 0 else 0)))) h) : zGo d m_L_cell 0 [.ref 0, .int 0] [] h K := by
  have e2 : ∀ st, zstep m_L_cell 2 [.ref 0, .int 0] (.ref 0 :: st) h = some (3, [.ref 0, .int 0], .int (Int32.ofNat ns) :: st, h) := by
    intro st
    rw [zs_of (e := (.arraylength, 1, 0, 0, 0, 0)) rfl]
    show z_alen 3 [.ref 0, .int 0] (.ref 0 :: st) h = _
    unfold z_alen
    dsimp only
    rw [h0]
  refine g_s (pc' := 1) rfl ?_
  refine g_s (pc' := 2) rfl ?_
  refine g_s (e2 _) ?_
  refine g_icge (pc' := 6) rfl rfl (fun hc => ?_) (fun hc => ?_)
  · have hc : (0 : Int32) < Int32.ofNat ns := hc
    rw [show ((0 : Int32) < Int32.ofNat ns) = (0 < ns) from n_lt (a := 0) (by decide) hn] at hc
    rw [if_pos hc] at k
    refine g_s (pc' := 7) rfl ?_
    refine g_s (pc' := 8) rfl ?_
    have e8 : zstep m_L_cell 8 [.ref 0, .int 0] [.int 0, .ref 0] h = some (9, [.ref 0, .int 0], [.int (f 0)], h) := by
      rw [zs_of (e := (.iaload, 1, 0, 0, 0, 0)) rfl]
      show z_iald 9 [.ref 0, .int 0] [.int 0, .ref 0] h = _
      unfold z_iald
      dsimp only
      rw [h0]
      dsimp only
      rw [if_neg]
      · rfl
      · intro z
        rcases z with z | z | z
        · exact z (Or.inr rfl)
        · exact absurd z (by decide)
        · have : ns ≤ 0 := z
          omega
    refine g_s e8 ?_
    refine g_s (pc' := 13) rfl ?_
    exact g_end rfl rfl k
  · have hc : ¬ (0 : Int32) < Int32.ofNat ns := hc
    rw [show ((0 : Int32) < Int32.ofNat ns) = (0 < ns) from n_lt (a := 0) (by decide) hn] at hc
    rw [if_neg hc] at k
    refine g_psh (pc' := 13) (v' := .int 0) rfl (congrArg Value.int kc_i0) ?_
    exact g_end rfl rfl k
/-- a row is filled -/
theorem r_fill {p n : Nat} {v : Int32} (hp : h.2.2 p = some (.inl (0, n, .inl (fun _ => 0)))) (h1 : Nat.ble 1000 p = true) (hn : n < 2147483648) (k : K (.inl none) (zput h p (.inl (0, n, .inl (fun q => if q < n then v else 0))))) : zGo d m_J7_fill_53178 0 [.ref p, .int v, zJ, zJ] [] h K := by
  have loop : ∀ (j i : Nat), i + j = n → zGo d m_J7_fill_53178 5 [.ref p, .int v, .int (Int32.ofNat i), .int (Int32.ofNat n)] [] (zput h p (.inl (0, n, .inl (fun q => if q < i then v else 0)))) K := by
    intro j
    induction j with
    | zero =>
      intro i hi
      have hi : i = n := by omega
      subst hi
      refine g_s (pc' := 6) rfl ?_
      refine g_s (pc' := 7) rfl ?_
      refine g_icge (pc' := 10) rfl rfl (fun hc => ?_) (fun hc => ?_)
      · rw [n_lt (by omega) (by omega)] at hc
        omega
      · exact g_end rfl rfl k
    | succ j ih =>
      intro i hi
      refine g_s (pc' := 6) rfl ?_
      refine g_s (pc' := 7) rfl ?_
      refine g_icge (pc' := 10) rfl rfl (fun hc => ?_) (fun hc => ?_)
      · refine g_s (pc' := 11) rfl ?_
        refine g_s (pc' := 12) rfl ?_
        refine g_s (pc' := 13) rfl ?_
        refine r_iast (pc' := 14) (n := n) rfl rfl rfl rfl (zput_at _ _ _) h1 (n_in (by omega) (by omega)) ?_
        rw [zput_over, n_cl (by omega)]
        refine g_inc (pc' := 17) (ls' := [.ref p, .int v, .int (Int32.ofNat i + 1), .int (Int32.ofNat n)]) rfl rfl rfl kc_i1 (zst1_of rfl (Or.inr rfl) rfl) ?_
        refine g_s (pc' := 5) rfl ?_
        have e : upd (fun q => if q < i then v else 0) i v = (fun q => if q < i + 1 then v else 0) := by
          funext q
          unfold upd
          by_cases c : q = i
          · rw [if_pos c, if_pos (by omega)]
          · rw [if_neg c]
            show (if q < i then v else 0) = _
            by_cases c2 : q < i
            · rw [if_pos c2, if_pos (by omega)]
            · rw [if_neg c2, if_neg (by omega)]
        rw [e, show (Int32.ofNat i + 1 : Int32) = Int32.ofNat (i + 1) from n_add _ 1]
        exact ih (i + 1) (by omega)
      · rw [n_lt (by omega) (by omega)] at hc
        omega
  have e0 : zput h p (.inl (0, n, .inl (fun q => if q < 0 then v else 0))) = h := by
    have : (fun q : Nat => if q < 0 then v else 0) = fun _ => (0 : Int32) := by
      funext q
      rw [if_neg (Nat.not_lt_zero q)]
    rw [this]
    exact zput_self hp
  have e3 : zstep m_J7_fill_53178 3 [.ref p, .int v, .int 0, zJ] [.ref p] h = some (4, [.ref p, .int v, .int 0, zJ], [.int (Int32.ofNat n)], h) := by
    rw [zs_of (e := (.arraylength, 1, 0, 0, 0, 0)) rfl]
    show z_alen 4 [.ref p, .int v, .int 0, zJ] [.ref p] h = _
    unfold z_alen
    dsimp only
    rw [hp]
  refine g_psh (pc' := 1) (v' := .int 0) rfl (congrArg Value.int kc_i0) ?_
  refine g_s (pc' := 2) rfl ?_
  refine g_s (pc' := 3) rfl ?_
  refine g_s e3 ?_
  refine g_s (pc' := 5) rfl ?_
  have := loop n 0 (by omega)
  rw [e0] at this
  exact this
/-- the loops of the model's reset, its rows still empty -/
theorem r_reset {fs : List Value} (hO : h.2.2 1031 = some (.inr (9, fs))) (f7 : fs[7]? = some (.ref 1033)) (f10 : fs[10]? = some (.ref 1035)) (f20 : fs[20]? = some (.ref 1037)) (f21 : fs[21]? = some (.ref 1038)) (f22 : fs[22]? = some (.ref 1039))
    (r33 : h.2.2 1033 = some (.inl (0, 16, .inl (fun _ => 0)))) (r35 : h.2.2 1035 = some (.inl (0, 32, .inl (fun _ => 0)))) (r37 : h.2.2 1037 = some (.inl (0, 200, .inl (fun _ => 0)))) (r38 : h.2.2 1038 = some (.inl (0, 200, .inl (fun _ => 0)))) (r39 : h.2.2 1039 = some (.inl (0, 16, .inl (fun _ => 0))))
    (k : K (.inl none) (zput h 1039 (.inl (0, 16, .inl (ng 16))))) : zGo d m_X9_reset 75 [.ref 1031, zJ] [] h K := by
  have loop3 : ∀ (j i : Nat), i + j = 200 → zGo d m_X9_reset 126 [.ref 1031, .int (Int32.ofNat i)] [] (zput h 1039 (.inl (0, 16, .inl (ng 16)))) K := by
    intro j
    induction j with
    | zero =>
      intro i hi
      refine g_s (pc' := 127) rfl ?_
      refine g_psh (pc' := 130) (v' := .int (Int32.ofNat 200)) rfl rfl ?_
      refine g_icge (pc' := 133) rfl rfl (fun hc => ?_) (fun hc => ?_)
      · rw [n_lt (by omega) (by omega)] at hc
        omega
      · exact g_end rfl rfl k
    | succ j ih =>
      intro i hi
      refine g_s (pc' := 127) rfl ?_
      refine g_psh (pc' := 130) (v' := .int (Int32.ofNat 200)) rfl rfl ?_
      refine g_icge (pc' := 133) rfl rfl (fun hc => ?_) (fun hc => ?_)
      · refine g_s (pc' := 134) rfl ?_
        refine r_getf (pc' := 137) rfl rfl hO f20 ?_
        refine g_s (pc' := 138) rfl ?_
        refine g_psh (pc' := 139) (v' := .int 0) rfl (congrArg Value.int kc_i0) ?_
        refine r_iast (pc' := 140) (n := 200) rfl rfl rfl rfl r37 rfl (n_in (by omega) (by decide)) ?_
        rw [upd_zero, zput_self (show (zput h 1039 (.inl (0, 16, .inl (ng 16)))).2.2 1037 = _ from r37)]
        refine g_s (pc' := 141) rfl ?_
        refine r_getf (pc' := 144) rfl rfl hO f21 ?_
        refine g_s (pc' := 145) rfl ?_
        refine g_psh (pc' := 146) (v' := .int 0) rfl (congrArg Value.int kc_i0) ?_
        refine r_iast (pc' := 147) (n := 200) rfl rfl rfl rfl r38 rfl (n_in (by omega) (by decide)) ?_
        rw [upd_zero, zput_self (show (zput h 1039 (.inl (0, 16, .inl (ng 16)))).2.2 1038 = _ from r38)]
        refine g_inc (pc' := 150) (ls' := [.ref 1031, .int (Int32.ofNat i + 1)]) rfl rfl rfl kc_i1 (zst1_of rfl (Or.inr rfl) rfl) ?_
        refine g_s (pc' := 126) rfl ?_
        rw [show (Int32.ofNat i + 1 : Int32) = Int32.ofNat (i + 1) from n_add _ 1]
        exact ih (i + 1) (by omega)
      · rw [n_lt (by omega) (by omega)] at hc
        omega
  have loop2 : ∀ (j i : Nat), i + j = 32 → zGo d m_X9_reset 105 [.ref 1031, .int (Int32.ofNat i)] [] (zput h 1039 (.inl (0, 16, .inl (ng 16)))) K := by
    intro j
    induction j with
    | zero =>
      intro i hi
      refine g_s (pc' := 106) rfl ?_
      refine g_psh (pc' := 108) (v' := .int (Int32.ofNat 32)) rfl rfl ?_
      refine g_icge (pc' := 111) rfl rfl (fun hc => ?_) (fun hc => ?_)
      · rw [n_lt (by omega) (by omega)] at hc
        omega
      · refine g_psh (pc' := 125) (v' := .int 0) rfl (congrArg Value.int kc_i0) ?_
        refine g_s (pc' := 126) rfl ?_
        exact loop3 200 0 (by omega)
    | succ j ih =>
      intro i hi
      refine g_s (pc' := 106) rfl ?_
      refine g_psh (pc' := 108) (v' := .int (Int32.ofNat 32)) rfl rfl ?_
      refine g_icge (pc' := 111) rfl rfl (fun hc => ?_) (fun hc => ?_)
      · refine g_s (pc' := 112) rfl ?_
        refine r_getf (pc' := 115) rfl rfl hO f10 ?_
        refine g_s (pc' := 116) rfl ?_
        refine g_psh (pc' := 117) (v' := .int 0) rfl (congrArg Value.int kc_i0) ?_
        refine r_iast (pc' := 118) (n := 32) rfl rfl rfl rfl r35 rfl (n_in (by omega) (by decide)) ?_
        rw [upd_zero, zput_self (show (zput h 1039 (.inl (0, 16, .inl (ng 16)))).2.2 1035 = _ from r35)]
        refine g_inc (pc' := 121) (ls' := [.ref 1031, .int (Int32.ofNat i + 1)]) rfl rfl rfl kc_i1 (zst1_of rfl (Or.inr rfl) rfl) ?_
        refine g_s (pc' := 105) rfl ?_
        rw [show (Int32.ofNat i + 1 : Int32) = Int32.ofNat (i + 1) from n_add _ 1]
        exact ih (i + 1) (by omega)
      · rw [n_lt (by omega) (by omega)] at hc
        omega
  have loop1 : ∀ (j i : Nat), i + j = 16 → zGo d m_X9_reset 77 [.ref 1031, .int (Int32.ofNat i)] [] (zput h 1039 (.inl (0, 16, .inl (ng i)))) K := by
    intro j
    induction j with
    | zero =>
      intro i hi
      have hi : i = 16 := by omega
      subst hi
      refine g_s (pc' := 78) rfl ?_
      refine g_psh (pc' := 80) (v' := .int (Int32.ofNat 16)) rfl rfl ?_
      refine g_icge (pc' := 83) rfl rfl (fun hc => ?_) (fun hc => ?_)
      · rw [n_lt (by omega) (by omega)] at hc
        omega
      · refine g_psh (pc' := 104) (v' := .int 0) rfl (congrArg Value.int kc_i0) ?_
        refine g_s (pc' := 105) rfl ?_
        exact loop2 32 0 (by omega)
    | succ j ih =>
      intro i hi
      refine g_s (pc' := 78) rfl ?_
      refine g_psh (pc' := 80) (v' := .int (Int32.ofNat 16)) rfl rfl ?_
      refine g_icge (pc' := 83) rfl rfl (fun hc => ?_) (fun hc => ?_)
      · refine g_s (pc' := 84) rfl ?_
        refine r_getf (pc' := 87) rfl rfl hO f7 ?_
        refine g_s (pc' := 88) rfl ?_
        refine g_psh (pc' := 89) (v' := .int 0) rfl (congrArg Value.int kc_i0) ?_
        refine r_iast (pc' := 90) (n := 16) rfl rfl rfl rfl r33 rfl (n_in (by omega) (by decide)) ?_
        rw [upd_zero, zput_self (show (zput h 1039 (.inl (0, 16, .inl (ng i)))).2.2 1033 = _ from r33)]
        refine g_s (pc' := 91) rfl ?_
        refine r_getf (pc' := 94) rfl rfl hO f22 ?_
        refine g_s (pc' := 95) rfl ?_
        refine g_psh (pc' := 96) (v' := .int (-1)) rfl (congrArg Value.int kc_im1) ?_
        refine r_iast (pc' := 97) (n := 16) rfl rfl rfl rfl (zput_at _ _ _) rfl (n_in (by omega) (by decide)) ?_
        rw [zput_over, n_cl (by omega), ng_step]
        refine g_inc (pc' := 100) (ls' := [.ref 1031, .int (Int32.ofNat i + 1)]) rfl rfl rfl kc_i1 (zst1_of rfl (Or.inr rfl) rfl) ?_
        refine g_s (pc' := 77) rfl ?_
        rw [show (Int32.ofNat i + 1 : Int32) = Int32.ofNat (i + 1) from n_add _ 1]
        exact ih (i + 1) (by omega)
      · rw [n_lt (by omega) (by omega)] at hc
        omega
  refine g_psh (pc' := 76) (v' := .int 0) rfl (congrArg Value.int kc_i0) ?_
  refine g_s (pc' := 77) rfl ?_
  have := loop1 16 0 (by omega)
  rw [ng_zero, zput_self r39] at this
  exact this
end RAW
