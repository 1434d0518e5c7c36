/-! run, verify, steps and what only answers -/
section CALLU
variable {d th : Nat} {u : Nat × Nat} {e w c : zm} {s : ms} {X X' : xs} {N : Nat} {F : Int32 → zm → Prop}
theorem xRun_ok (th : Nat) : ∀ (f left N : Nat) (X : xs), xOk N X → ∃ N', N' ≤ N + left ∧ xOk N' (xRun th f left X) := by
  intro f
  induction f with
  | zero => intro left N X O; exact ⟨N, by omega, O⟩
  | succ f ih =>
    intro left N X O
    unfold xRun
    by_cases c : left = 0 ∨ ¬ xSt X = 2
    · rw [if_pos c]
      exact ⟨N, by omega, O⟩
    · rw [if_neg c]
      have hs : xSt X = 2 := by
        by_cases z : xSt X = 2
        · exact z
        · exact absurd (Or.inr z) c
      have hl : 0 < left := by
        by_cases z : left = 0
        · exact absurd (Or.inl z) c
        · omega
      obtain ⟨H, G⟩ := O.good hs
      obtain ⟨t1, t2⟩ := G.turn th hs hl
      rcases t2 with ⟨z1, z2⟩ | ⟨z1, M, z2, z3⟩
      · obtain ⟨N', q1, q2⟩ := ih (xTurn th left X).2 _ _ (z2.ok z1)
        exact ⟨N', by omega, q2⟩
      · -- it stands still
        have stay : ∀ f l (Y : xs), ¬ xSt Y = 2 → xRun th f l Y = Y := by
          intro f l Y hY
          cases f with
          | zero => rfl
          | succ f =>
            unfold xRun
            rw [if_pos (Or.inr hY)]
        rw [stay f _ _ z1]
        exact ⟨M, by omega, z3⟩
def ruc (X : xs) (a1 : Int32) : Int32 := if ¬ a1 < 0 ∧ ¬ 100000 < a1 then (if xSt X = 2 then 0 else 2) else 1
theorem l_run (C : CW th u w X) (O : xOk N X) (hN : N < 1000000000) (hd : Nat.ble 6 (d + 7) = true) (a1 : Int32) (k : lres th (uX u) w (if ruc X a1 = 0 then xRun th a1.toNatClampNeg a1.toNatClampNeg X else X) (ruc X a1) (Int32.ofNat (xSt (xRun th a1.toNatClampNeg a1.toNatClampNeg X))).toInt64 F) : zGo (d + 8) m_L_run 0 [.ref 1000, .int a1, .ref 1076, zJ] [] (yz w) (zKi F) := by
  have e5 : yI w 1007 5 = Int32.ofNat (xSt X) := C.1.2.2.2.2.2.2.2.2.2.2.2.2.1
  have h4 := O.2.1
  refine B_L_run_0 _ (B_X8_run_0 hd _ ?_)
  rw [e5, show ((Int32.ofNat (xSt X) = 2) = (xSt X = 2)) from n_eq (by omega) (by decide)]
  have one : ¬ (¬ a1 < 0 ∧ ¬ 100000 < a1) → F 1 (yuX w) := by
    intro z
    have e : ruc X a1 = 1 := if_neg z
    rw [e, if_neg (by decide)] at k
    exact k.tw (by decide) C (mkp.rf w)
  refine ⟨fun z => Or.inl ⟨rfl, one (fun q => q.1 z)⟩, fun z => ⟨fun z2 => Or.inl ⟨rfl, one (fun q => q.2 z2)⟩, fun z2 => ⟨fun z3 => ?_, fun z3 => ?_⟩⟩⟩
  · have e : ruc X a1 = 0 := by unfold ruc; rw [if_pos ⟨z, z2⟩, if_pos z3]
    rw [e, if_pos rfl] at k
    obtain ⟨n, n1, n2⟩ := n_of z
    subst n2
    rw [n_lit 100000, n_lt (by decide) n1] at z2
    rw [n_cl n1] at k
    obtain ⟨H, G⟩ := O.good z3
    have est : yL w 1007 8 = Int64.ofNat N := C.1.2.2.2.1.trans G.2.1
    rw [est, i_l n1, l_add]
    refine c8_loop hd (show n ≤ 100000 by omega) n n 0 N w X (Nat.le_refl n) C.rc (Or.inl ⟨z3, G⟩) (by omega) (by omega) (fun w' R' => ?_)
    exact k.ok R'.cw R'.2.2.2.mk
  · have e : ruc X a1 = 2 := by unfold ruc; rw [if_pos ⟨z, z2⟩, if_neg z3]
    rw [e, if_neg (by decide)] at k
    exact Or.inr ⟨rfl, k.tw (by decide) C (mkp.rf w)⟩
theorem q_run (R : RQ th s X) (O : xOk N X) (hN : N < 1000000000) (a1 : Int32) (k : mres th c (if ruc X a1 = 0 then xRun th a1.toNatClampNeg a1.toNatClampNeg X else X) (ruc X a1) (Int32.ofNat (xSt (xRun th a1.toNatClampNeg a1.toNatClampNeg X))) F) : zGo (d + 7) m_X9_run 0 [.ref 1031, .int a1, zJ, zJ] [] (yz (put c s)) (zKi F) := by
  have h4 := O.2.1
  refine B_X9_run_0 _ (B_X9_in_0 _ _ _ ?_)
  rw [R.st2, show ((Int32.ofNat (xSt X) = 2) = (xSt X = 2)) from n_eq (by omega) (by decide), p_I, p_I, p_I]
  have one : ¬ (¬ a1 < 0 ∧ ¬ 100000 < a1) → ∀ v, F v (put c (tI s 1 1)) := by
    intro z v
    have e : ruc X a1 = 1 := if_neg z
    rw [e, if_neg (by decide)] at k
    exact k.tw (by decide) R v
  refine ⟨fun z => ⟨fun _ => ⟨fun _ => one (fun q => q.1 z) _, fun q => absurd (by decide) q⟩, fun q => absurd rfl q⟩, fun z => ⟨fun z2 => ⟨fun _ => ⟨fun _ => one (fun q => q.2 z2) _, fun q => absurd (by decide) q⟩, fun q => absurd rfl q⟩, fun z2 => ⟨fun q => absurd q (by decide), fun _ => ⟨fun z3 => ⟨fun q => absurd q (by decide), fun _ => ?_⟩, fun z3 => ⟨fun _ => ?_, fun q => absurd (by decide) q⟩⟩⟩⟩⟩
  · have e : ruc X a1 = 0 := by unfold ruc; rw [if_pos ⟨z, z2⟩, if_pos z3]
    rw [e, if_pos rfl] at k
    obtain ⟨n, n1, n2⟩ := n_of z
    subst n2
    rw [n_lit 100000, n_lt (by decide) n1] at z2
    rw [n_cl n1] at k
    obtain ⟨H, G⟩ := O.good z3
    have R0 : RM th 0 (tI s 1 0) X := R
    refine c9_loop n n N (tI s 1 0) X zJ rfl (Nat.le_refl n) R0 (Or.inl ⟨z3, G⟩) (by omega) (by omega) (fun s' R' => ?_)
    refine k s' _ R'.rq ?_ (fun _ => rfl)
    obtain ⟨sl, Ra, -⟩ := R'
    exact Ra.2.2.2.2.2.2.2.2.2.2.2.2.2.2.2.2.2.2.2.2.2.2
  · have e : ruc X a1 = 2 := by unfold ruc; rw [if_pos ⟨z, z2⟩, if_neg z3]
    rw [e, if_neg (by decide)] at k
    exact k.tw (by decide) R _
end CALLU
