/-! the model's step -/
section ACT
variable {d : Nat} {c : zm} {s : ms} {m pc h em : Nat} {n : Int64} {stk loc mem out cd : Nat → Int32}
theorem c9_move {F : zm → Prop} {o : Nat} {x : Int32} (ho : o ≤ 26) (hn : ¬ (4 ≤ o ∧ o ≤ 15)) (h16 : ¬ o = 16) (h17 : ¬ o = 17) (h1 : h ≤ 16) (ht : tk o ≤ h) (hp : h - tk o + pt o ≤ 16) (he : em < 2000000000) (hx : o = 2 ∨ o = 3 → ∃ j, j < 16 ∧ x = Int32.ofNat j)
    (k : F (putM c s (amk pc n (aeff o x h em stk loc mem out)))) : zGo d m_X9_move 0 [.ref 1031, .int (Int32.ofNat o), .int x, zJ] [] (yz (putM c s (pc, h, em, n, stk, loc, mem, out))) (zKv F) := by
  refine B_X9_move_0 _ _ ?_
  rw [n_toInt (by omega)]
  unfold aeff at k
  rw [if_neg hn] at k
  simp only [qM_ht, qM_stk, qM_loc, qM_mem, qM_em]
  obtain e | e | e | e | e | e | e | e | e | e | e | e | e : o = 0 ∨ o = 1 ∨ o = 2 ∨ o = 3 ∨ o = 18 ∨ o = 19 ∨ o = 20 ∨ o = 21 ∨ o = 22 ∨ o = 23 ∨ o = 24 ∨ o = 25 ∨ o = 26 := by
    clear hx k hp ht
    omega
  all_goals
    subst e
    simp only [tk, pt] at ht hp
    and_intros
    all_goals
      intro c
      first
        | (exfalso; revert c; decide)
        | skip
  · exact k
  · have hp : h ≤ 15 := by simpa using hp
    simp (disch := omega) only [n_lit, n_add, n_cl, pM_ht, pM_stk]
    exact ⟨n_in (by omega) (by decide), k⟩
  · have hp : h ≤ 15 := by simpa using hp
    obtain ⟨j, hj, rfl⟩ := hx (Or.inl rfl)
    simp (disch := omega) only [n_lit, n_add, n_cl, pM_ht, pM_stk] at k ⊢
    exact ⟨n_in (by omega) (by decide), n_in (by omega) (by decide), k⟩
  · have ht : 1 ≤ h := by simpa using ht
    obtain ⟨j, hj, rfl⟩ := hx (Or.inr rfl)
    simp (disch := omega) only [n_lit, n_sub, n_cl, pM_ht, pM_loc] at k ⊢
    exact ⟨n_in (by omega) (by decide), n_in (by omega) (by decide), k⟩
  · have ht : 1 ≤ h := by simpa using ht
    have hp : h - 1 + 2 ≤ 16 := by simpa using hp
    simp (disch := omega) only [n_lit, n_add, n_sub, n_cl, pM_ht, pM_stk]
    exact ⟨n_in (by omega) (by decide), n_in (by omega) (by decide), k⟩
  · have ht : 2 ≤ h := by simpa using ht
    simp (disch := omega) only [n_lit, n_sub, n_cl, pM_stk]
    refine ⟨n_in (by omega) (by decide), n_in (by omega) (by decide), n_in (by omega) (by decide), n_in (by omega) (by decide), ?_⟩
    rw [upd_comm _ _ _ (by omega : h - 2 ≠ h - 1)]
    exact k
  · have ht : 1 ≤ h := by simpa using ht
    simp (disch := omega) only [n_lit, n_sub, pM_ht]
    exact k
  · exact k
  · have ht : 1 ≤ h := by simpa using ht
    simp (disch := omega) only [n_lit, n_sub, pM_ht]
    exact k
  · have ht : 1 ≤ h := by simpa using ht
    simp (disch := omega) only [n_lit, n_sub, pM_ht]
    exact k
  · have ht : 1 ≤ h := by simpa using ht
    simp (disch := omega) only [n_lit, n_sub, n_mod, n_cl, n_add, pM_ht, pM_out, pM_em]
    exact ⟨n_in (by omega) (by decide), n_in (by omega) (by decide), k⟩
  · have ht : 1 ≤ h := by simpa using ht
    simp (disch := omega) only [show (1 : Int32) = Int32.ofNat 1 from rfl, n_sub, n_cl, pM_stk]
    exact ⟨n_in (by omega) (by decide), apl_in _, n_in (by omega) (by decide), k⟩
  · have ht : 2 ≤ h := by simpa using ht
    simp (disch := omega) only [show (1 : Int32) = Int32.ofNat 1 from rfl, show (2 : Int32) = Int32.ofNat 2 from rfl, n_sub, n_add, n_cl, pM_ht, pM_mem]
    rw [show h - 2 + 1 = h - 1 from by omega]
    exact ⟨n_in (by omega) (by decide), n_in (by omega) (by decide), apl_in _, k⟩
set_option maxHeartbeats 1000000 in
theorem c9_act {F : zm → Prop} (hc : sA s 1032 = cd) (S : aSafe m cd pc h em stk) (k : F (putM c s (astep cd (pc, h, em, n, stk, loc, mem, out)))) : zGo (d + 2) m_X9_act 0 [.ref 1031, zJ, zJ, zJ] [] (yz (putM c s (pc, h, em, n, stk, loc, mem, out))) (zKv F) := by
  obtain ⟨s1, s2, s3, s4, s5, s6, s7, s8, s9, s10⟩ := S
  have hle := (aop_eq cd pc).2
  have hc' : ∀ a, yA (putM c s a) 1032 = cd := fun _ => hc
  have hx9 : aop cd pc = 21 ∨ aop cd pc = 22 ∨ aop cd pc = 23 → ∃ x, x < 200 ∧ aarg cd pc = Int32.ofNat x := by
    intro z
    obtain ⟨x, hx1, hx2⟩ := s9 z
    exact ⟨x, by omega, hx2⟩
  have ht22 : aop cd pc = 22 ∨ aop cd pc = 23 → 0 < h := by
    intro z
    rcases z with z | z <;> (rw [z] at s5; simp [tk] at s5; omega)
  unfold astep amk at k
  dsimp only at k
  refine B_X9_act_0 (c9_op (hc' _) (by omega) (c9_goesTo hc (by omega) s4 ht22 hx9 (c9_arg (hc' _) (by omega) ?_)))
  generalize hnx : anext (aop cd pc) (aarg cd pc) pc h stk = nx at *
  generalize hog : aop cd pc = o at *
  generalize hxg : aarg cd pc = x at *
  have fin : ∀ e : ae, F (putM c s (nx, e.1, e.2.1, n + 1, e.2.2.1, e.2.2.2.1, e.2.2.2.2.1, e.2.2.2.2.2)) → zGo (d + 2) m_X9_act 130 [.ref 1031, .int (Int32.ofNat o), .int (Int32.ofNat nx), .int x] [] (yz (putM c s (amk pc n e))) (zKv F) := by
    intro e k
    refine B_X9_act_130 _ _ _ ?_
    unfold amk
    simp only [pM_at, qM_n, pM_n]
    exact k
  simp (disch := omega) only [qM_ht, qM_stk, n_lit, n_lt]
  by_cases ha : 4 ≤ o ∧ o ≤ 15
  · have ht : 2 ≤ h := by
      have : tk o = 2 := by unfold tk; rw [if_neg (by omega), if_pos (Or.inl ha)]
      omega
    refine ⟨fun c => absurd c (by omega), fun _ => ⟨fun c => absurd c (by omega), fun _ => ?_⟩⟩
    simp (disch := omega) only [n_sub, n_cl, pM_ht]
    refine ⟨n_in (by omega) (by decide), n_in (by omega) (by decide), c9_reckon _ _ ha.1 (by omega) s10 ⟨n_in (by omega) (by decide), ?_⟩⟩
    rw [pM_stk, show h - 1 - 1 = h - 2 from by omega]
    unfold aeff at k
    rw [if_pos ha] at k
    exact fin (h - 1, em, _, loc, mem, out) k
  · have go82 : zGo (d + 2) m_X9_act 82 [.ref 1031, .int (Int32.ofNat o), .int (Int32.ofNat nx), .int x] [] (yz (putM c s (pc, h, em, n, stk, loc, mem, out))) (zKv F) := by
      refine B_X9_act_82 _ _ _ ?_
      simp (disch := omega) only [n_lit, n_eq]
      have go94 : (o = 16 ∨ o = 17) → zGo (d + 2) m_X9_act 94 [.ref 1031, .int (Int32.ofNat o), .int (Int32.ofNat nx), .int x] [] (yz (putM c s (pc, h, em, n, stk, loc, mem, out))) (zKv F) := by
        intro ho
        have ht : 1 ≤ h := by
          rcases ho with z | z <;> (rw [z] at s5; simp [tk] at s5; omega)
        refine B_X9_act_94 _ _ _ ?_
        simp (disch := omega) only [qM_ht, qM_stk, show (1 : Int32) = Int32.ofNat 1 from rfl, n_sub, n_cl]
        refine ⟨n_in (by omega) (by decide), c9_reckon _ _ (by omega) (by omega) (fun z => by omega) ⟨n_in (by omega) (by decide), ?_⟩⟩
        rw [pM_stk]
        unfold aeff at k
        rw [if_neg ha] at k
        rcases ho with z | z
        · subst z
          exact fin (h, em, _, loc, mem, out) k
        · subst z
          exact fin (h, em, _, loc, mem, out) k
      refine ⟨fun e => go94 (Or.inl e), fun e1 => ⟨fun e => go94 (Or.inr e), fun e2 => ?_⟩⟩
      exact c9_move s3 ha e1 e2 s4 s5 s6 s7 s8 (fin _ k)
    exact ⟨fun _ => go82, fun c => ⟨fun _ => go82, fun c2 => absurd ⟨by omega, by omega⟩ ha⟩⟩
end ACT
