/-! how the small machine's heap and locals stand for the machine's own -/
theorem zblt {a b : Nat} (h : Nat.blt a b = true) : a < b := Nat.le_of_ble_eq_true h
theorem zexp_cons (v : Value) (r : List Value) : zexp (v :: r) = bif zisL v then v :: zJ :: zexp r else v :: zexp r := rfl
def ztv (ad : Nat → Nat) : Value → Value
  | .ref a => .ref (ad a)
  | v => v
def ztA (ad : Nat → Nat) : vp_A → vp_A
  | (n, .inr (.inr (.inr (.inr f)))) => (n, .inr (.inr (.inr (.inr fun j => (f j).map ad))))
  | a => a
def zad (b0 : Nat) (o : Nat → Nat) (k : Nat) : Nat := if k < 1000 then o k else b0 + (k - 1000)
def zAt (D : va_G) (ad : Nat → Nat) (A : Nat → Prop) (U : State) (H : Heap) (k : Nat) : zE → Prop
  | .inr q => va_at D vwCl (ad k, .inr (q.1, q.2.map (ztv ad))) H
  | .inl a => if a.1 = 9 then ∃ f, a.2.2 = .inl f ∧ va_T .int (ad k) a.2.1 (fun j => .int (f j)) A U H
      else ∃ cA : ClassId, H[ad k]? = some (vp_cell cA (ztA ad a.2)) ∧ ArrOfT U cA (zaT a.1) ∧ va_RA U cA (zaT a.1)
def zRel (D : va_G) (b0 : Nat) (o : Nat → Nat) (U : State) (h : zS) (H : Heap) : Prop :=
  1000 ≤ h.1 ∧ H.size = zad b0 o h.1 ∧ ∀ (k : Nat) (e : zE), h.2.2 k = some e → k < h.1 ∧ (k < 1000 → o k < b0) ∧ zAt D (zad b0 o) (fun q => b0 ≤ q) U H k e
theorem zAt_inr {D : va_G} {ad : Nat → Nat} {A : Nat → Prop} {U : State} {H : Heap} {k : Nat} {q : Nat × List Value} : zAt D ad A U H k (.inr q) = va_at D vwCl (ad k, .inr (q.1, q.2.map (ztv ad))) H := rfl
theorem zAt_inl {D : va_G} {ad : Nat → Nat} {A : Nat → Prop} {U : State} {H : Heap} {k : Nat} {a : Nat × vp_A} : zAt D ad A U H k (.inl a) = (if a.1 = 9 then ∃ f, a.2.2 = .inl f ∧ va_T .int (ad k) a.2.1 (fun j => .int (f j)) A U H
      else ∃ cA : ClassId, H[ad k]? = some (vp_cell cA (ztA ad a.2)) ∧ ArrOfT U cA (zaT a.1) ∧ va_RA U cA (zaT a.1)) := rfl
theorem zad_new (b0 : Nat) (o : Nat → Nat) {k : Nat} (h : 1000 ≤ k) : zad b0 o k = b0 + (k - 1000) := by unfold zad; rw [if_neg (by omega)]
theorem zad_old (b0 : Nat) (o : Nat → Nat) {k : Nat} (h : k < 1000) : zad b0 o k = o k := by unfold zad; rw [if_pos h]
theorem zset_self (g : zG) (a : Nat) (e : zE) : zset g a e a = some e := by simp [zset]
theorem zset_ne (g : zG) {a b : Nat} (e : zE) (h : b ≠ a) : zset g a e b = g b := by
  have : Nat.beq b a = false := by
    cases hq : Nat.beq b a
    · rfl
    · exact absurd (Nat.eq_of_beq_eq_true hq) h
  simp [zset, this]
theorem zAt.kept {D : va_G} {ad : Nat → Nat} {A : Nat → Prop} {U : State} {H H1 : Heap} {k : Nat} {e : zE} (h : zAt D ad A U H k e) (hq : H1[ad k]? = H[ad k]?) : zAt D ad A U H1 k e := by
  cases e with
  | inr q =>
    rw [zAt_inr] at h ⊢
    exact va_at.kept h hq
  | inl a =>
    rw [zAt_inl] at h ⊢
    by_cases h9 : a.1 = 9
    · rw [if_pos h9] at h ⊢
      obtain ⟨f, hf, cell, h1, h2⟩ := h
      exact ⟨f, hf, cell, by rw [hq]; exact h1, h2⟩
    · rw [if_neg h9] at h ⊢
      obtain ⟨cA, h1, h2⟩ := h
      exact ⟨cA, by rw [hq]; exact h1, h2⟩
theorem zAt.moved {D : va_G} {ad : Nat → Nat} {A : Nat → Prop} {u U : State} {H : Heap} {k : Nat} {e : zE} (hvm : u.vm.Alike U.vm) (h : zAt D ad A u H k e) : zAt D ad A U H k e := by
  cases e with
  | inr q => exact h
  | inl a =>
    rw [zAt_inl] at h ⊢
    by_cases h9 : a.1 = 9
    · rw [if_pos h9] at h ⊢
      obtain ⟨f, hf, hT⟩ := h
      exact ⟨f, hf, va_T.moved hvm hT⟩
    · rw [if_neg h9] at h ⊢
      obtain ⟨cA, h1, h2, h3⟩ := h
      exact ⟨cA, h1, arrOfT_moved hvm h2, va_RA.moved hvm h3⟩
theorem zRel.moved {D : va_G} {b0 : Nat} {o : Nat → Nat} {u U : State} {h : zS} {H : Heap} (hvm : u.vm.Alike U.vm) (hr : zRel D b0 o u h H) : zRel D b0 o U h H :=
  ⟨hr.1, hr.2.1, fun k e he => ⟨(hr.2.2 k e he).1, (hr.2.2 k e he).2.1, (hr.2.2 k e he).2.2.moved hvm⟩⟩
theorem zad_ne {b0 : Nat} {o : Nat → Nat} {k p : Nat} (hk : k < 1000 → o k < b0) (hp : 1000 ≤ p) (hne : k ≠ p) : zad b0 o k ≠ zad b0 o p := by
  rw [zad_new b0 o hp]
  by_cases h : k < 1000
  · rw [zad_old b0 o h]
    have := hk h
    omega
  · rw [zad_new b0 o (by omega)]
    omega
theorem zRel.put {D : va_G} {b0 : Nat} {o : Nat → Nat} {U : State} {h : zS} {H H1 : Heap} (hr : zRel D b0 o U h H) {p : Nat} {e0 e : zE} (hp : h.2.2 p = some e0) (hp1 : 1000 ≤ p)
    (hz : H1.size = H.size) (oq : ∀ q : Nat, q ≠ zad b0 o p → H1[q]? = H[q]?) (he : zAt D (zad b0 o) (fun q => b0 ≤ q) U H1 p e) : zRel D b0 o U (zput h p e) H1 := by
  refine ⟨hr.1, by rw [hz]; exact hr.2.1, fun k e' hk => ?_⟩
  by_cases hkp : k = p
  · subst hkp
    have : e' = e := by
      have h1 : (zput h k e).2.2 k = some e := zset_self _ _ _
      rw [h1] at hk
      exact (Option.some.inj hk).symm
    subst this
    exact ⟨(hr.2.2 k e0 hp).1, (hr.2.2 k e0 hp).2.1, he⟩
  · have h1 : (zput h p e).2.2 k = h.2.2 k := zset_ne _ _ hkp
    rw [h1] at hk
    obtain ⟨a1, a2, a3⟩ := hr.2.2 k e' hk
    exact ⟨a1, a2, a3.kept (oq _ (zad_ne a2 hp1 hkp))⟩
theorem zAt.lt {D : va_G} {ad : Nat → Nat} {A : Nat → Prop} {U : State} {H : Heap} {k : Nat} {e : zE} (h : zAt D ad A U H k e) : ad k < H.size := by
  cases e with
  | inr q =>
    rw [zAt_inr] at h
    exact va_at.lt h
  | inl a =>
    rw [zAt_inl] at h
    by_cases h9 : a.1 = 9
    · rw [if_pos h9] at h
      obtain ⟨f, hf, cell, h1, h2⟩ := h
      exact (Array.getElem?_eq_some_iff.mp h1).1
    · rw [if_neg h9] at h
      obtain ⟨cA, h1, h2⟩ := h
      exact (Array.getElem?_eq_some_iff.mp h1).1
theorem zRel.fresh {D : va_G} {b0 : Nat} {o : Nat → Nat} {U : State} {h : zS} {H H1 : Heap} (hr : zRel D b0 o U h H) (n : Nat) {e : zE}
    (hz : H1.size = H.size + 1) (oq : ∀ q : Nat, q < H.size → H1[q]? = H[q]?) (he : zAt D (zad b0 o) (fun q => b0 ≤ q) U H1 h.1 e) : zRel D b0 o U (znew h n e) H1 := by
  have h1000 := hr.1
  refine ⟨by show 1000 ≤ h.1 + 1; omega, ?_, fun k e' hk => ?_⟩
  · show H1.size = zad b0 o (h.1 + 1)
    rw [hz, hr.2.1, zad_new b0 o hr.1, zad_new b0 o (by omega)]
    omega
  · show k < h.1 + 1 ∧ _
    by_cases hkp : k = h.1
    · subst hkp
      have : e' = e := by
        have h1 : (znew h n e).2.2 h.1 = some e := zset_self _ _ _
        rw [h1] at hk
        exact (Option.some.inj hk).symm
      subst this
      exact ⟨by omega, fun q => absurd q (by omega), he⟩
    · have h1 : (znew h n e).2.2 k = h.2.2 k := zset_ne _ _ hkp
      rw [h1] at hk
      obtain ⟨a1, a2, a3⟩ := hr.2.2 k e' hk
      exact ⟨by omega, a2, a3.kept (oq _ a3.lt)⟩
/-- one cell more, of which nothing is known -/
theorem zRel.more {D : va_G} {b0 : Nat} {o : Nat → Nat} {U : State} {h : zS} {H H1 : Heap} (hr : zRel D b0 o U h H) (n : Nat)
    (hz : H1.size = H.size + 1) (oq : ∀ q : Nat, q < H.size → H1[q]? = H[q]?) : zRel D b0 o U (h.1 + 1, h.2.1 + n, h.2.2) H1 := by
  have h1000 := hr.1
  refine ⟨by show 1000 ≤ h.1 + 1; omega, ?_, fun k e' hk => ?_⟩
  · show H1.size = zad b0 o (h.1 + 1)
    rw [hz, hr.2.1, zad_new b0 o hr.1, zad_new b0 o (by omega)]
    omega
  · show k < h.1 + 1 ∧ _
    obtain ⟨a1, a2, a3⟩ := hr.2.2 k e' hk
    exact ⟨by omega, a2, a3.kept (oq _ a3.lt)⟩
/-! locals -/
def zLR (ad : Nat → Nat) (ls : List Value) (la : Array Slot) (n : Nat) : Prop := ls.length = n ∧ la.size = n ∧ lv_wf la ∧ ∀ (i : Nat) (v : Value), ls[i]? = some v → v ≠ zJ → la[i]? = some (.val (ztv ad v))
def zL (ad : Nat → Nat) (ls : List Value) : List (Nat × Value) := (List.range ls.length).filterMap (fun i => match ls[i]? with
  | some v => if v = zJ then none else some (i, ztv ad v)
  | none => none)
theorem zL_mem {ad : Nat → Nat} {ls : List Value} {i : Nat} {v : Value} (h : ls[i]? = some v) (hv : v ≠ zJ) : (i, ztv ad v) ∈ zL ad ls := by
  refine List.mem_filterMap.mpr ⟨i, List.mem_range.mpr (List.getElem?_eq_some_iff.mp h).1, ?_⟩
  simp only [h]
  rw [if_neg hv]
theorem zL_of {ad : Nat → Nat} {ls : List Value} {q : Nat × Value} (h : q ∈ zL ad ls) : ∃ v, ls[q.1]? = some v ∧ v ≠ zJ ∧ q.2 = ztv ad v := by
  obtain ⟨i, -, hi⟩ := List.mem_filterMap.mp h
  split at hi
  · rename_i v hv
    by_cases hj : v = zJ
    · rw [if_pos hj] at hi; cases hi
    · rw [if_neg hj] at hi
      cases hi
      exact ⟨v, hv, hj, rfl⟩
  · cases hi
theorem zLR.has {ad : Nat → Nat} {ls : List Value} {la : Array Slot} {n : Nat} (h : zLR ad ls la n) : lv_has la n (zL ad ls) := by
  obtain ⟨-, h2, h3, h4⟩ := h
  refine ⟨h2, h3, fun q hq => ?_⟩
  obtain ⟨v, a1, a2, a3⟩ := zL_of hq
  rw [a3]
  exact h4 _ _ a1 a2
theorem zLR.ld {ad : Nat → Nat} {ls : List Value} {la : Array Slot} {n : Nat} (h : zLR ad ls la n) {i : Nat} {v : Value} (hi : ls[i]? = some v) (hv : v ≠ zJ) : la[i]? = some (.val (ztv ad v)) := h.2.2.2 i v hi hv
theorem zLR.at {ad : Nat → Nat} {ls : List Value} {i : Nat} {v : Value} (hi : ls[i]? = some v) (hv : v ≠ zJ) : ∃ k : Nat, (zL ad ls)[k]? = some (i, ztv ad v) := List.getElem?_of_mem (zL_mem hi hv)
theorem zcat (ad : Nat → Nat) (v : Value) : (ztv ad v).category = 2 ↔ zisL v = true := by
  cases v <;> simp [ztv, Value.category, zisL]
theorem zcat1 (ad : Nat → Nat) {v : Value} (h : zisL v = false) : (ztv ad v).category = 1 := by
  cases v <;> simp_all [ztv, Value.category, zisL]
theorem zst1_spec {ls ls' : List Value} {i : Nat} {v : Value} (h : zst1 ls i v = some ls') : i < ls.length ∧ (∀ w, ls[i - 1]? = some w → 0 < i → zisL w = false) ∧ ls' = ls.set i v := by
  unfold zst1 at h
  cases hc : (Nat.blt i ls.length && (Nat.beq i 0 || !(zisL (ls.getD (i - 1) zJ)))) with
  | false => rw [hc] at h; cases h
  | true =>
    rw [hc] at h
    simp only [Bool.and_eq_true, Bool.or_eq_true, Bool.not_eq_true'] at hc
    obtain ⟨h1, h2⟩ := hc
    have h1' : i < ls.length := zblt h1
    refine ⟨h1', fun w hw h0 => ?_, (Option.some.inj h).symm⟩
    rcases h2 with h2 | h2
    · have := Nat.eq_of_beq_eq_true h2
      omega
    · rw [List.getD_eq_getElem?_getD, hw] at h2
      exact h2
theorem zst2_spec {ls ls' : List Value} {i : Nat} {v : Value} (h : zst2 ls i v = some ls') : i + 1 < ls.length ∧ (∀ w, ls[i - 1]? = some w → 0 < i → zisL w = false) ∧ ls' = (ls.set i v).set (i + 1) zJ := by
  unfold zst2 at h
  cases hc : (Nat.blt (i + 1) ls.length && (Nat.beq i 0 || !(zisL (ls.getD (i - 1) zJ)))) with
  | false => rw [hc] at h; cases h
  | true =>
    rw [hc] at h
    simp only [Bool.and_eq_true, Bool.or_eq_true, Bool.not_eq_true'] at hc
    obtain ⟨h1, h2⟩ := hc
    have h1' : i + 1 < ls.length := zblt h1
    refine ⟨h1', fun w hw h0 => ?_, (Option.some.inj h).symm⟩
    rcases h2 with h2 | h2
    · have := Nat.eq_of_beq_eq_true h2
      omega
    · rw [List.getD_eq_getElem?_getD, hw] at h2
      exact h2
/-- behind a store of one word: w is what lies there now, v what the small machine knows of it -/
theorem zLR.of1 {ad : Nat → Nat} {ls ls' : List Value} {la : Array Slot} {la' : Array Slot} {n i : Nat} {v w : Value} (hr : zLR ad ls la n) (h : zst1 ls i v = some ls') (hw : v ≠ zJ → w = ztv ad v)
    (hh : lv_has la' n ((i, w) :: (zL ad ls).filter (fun q => !(q.1 == i) && !(q.1 + 1 == i && q.2.category == 2)))) : zLR ad ls' la' n := by
  obtain ⟨h1, h2, rfl⟩ := zst1_spec h
  refine ⟨by rw [List.length_set]; exact hr.1, hh.1, hh.2.1, fun j u hj hu => ?_⟩
  by_cases hji : j = i
  · subst hji
    rw [List.getElem?_set_self h1] at hj
    cases hj
    rw [← hw hu]
    exact hh.2.2 _ List.mem_cons_self
  · rw [List.getElem?_set_ne (Ne.symm hji)] at hj
    refine hh.2.2 (j, ztv ad u) (List.mem_cons_of_mem _ (List.mem_filter.mpr ⟨zL_mem hj hu, ?_⟩))
    simp only [Bool.and_eq_true, Bool.not_eq_true', beq_eq_false_iff_ne, Bool.and_eq_false_iff]
    refine ⟨hji, ?_⟩
    by_cases hs : j + 1 = i
    · right
      have h3 : zisL u = false := h2 u (by rw [show i - 1 = j by omega]; exact hj) (by omega)
      intro hc
      rw [(zcat ad u).mp hc] at h3
      cases h3
    · left
      exact hs
theorem zLR.of2 {ad : Nat → Nat} {ls ls' : List Value} {la : Array Slot} {la' : Array Slot} {n i : Nat} {v : Value} (hr : zLR ad ls la n) (h : zst2 ls i v = some ls')
    (hh : lv_has la' n ((i, ztv ad v) :: (zL ad ls).filter (fun q => !(q.1 == i) && (!(q.1 == i + 1) && !(q.1 + 1 == i && q.2.category == 2))))) : zLR ad ls' la' n := by
  obtain ⟨h1, h2, rfl⟩ := zst2_spec h
  refine ⟨by rw [List.length_set, List.length_set]; exact hr.1, hh.1, hh.2.1, fun j u hj hu => ?_⟩
  by_cases hj1 : j = i + 1
  · subst hj1
    rw [List.getElem?_set_self (by rw [List.length_set]; exact h1)] at hj
    cases hj
    exact absurd rfl hu
  · rw [List.getElem?_set_ne (Ne.symm hj1)] at hj
    by_cases hji : j = i
    · subst hji
      rw [List.getElem?_set_self (by omega)] at hj
      cases hj
      exact hh.2.2 _ List.mem_cons_self
    · rw [List.getElem?_set_ne (Ne.symm hji)] at hj
      refine hh.2.2 (j, ztv ad u) (List.mem_cons_of_mem _ (List.mem_filter.mpr ⟨zL_mem hj hu, ?_⟩))
      simp only [Bool.and_eq_true, Bool.not_eq_true', beq_eq_false_iff_ne, Bool.and_eq_false_iff]
      refine ⟨hji, hj1, ?_⟩
      by_cases hs : j + 1 = i
      · right
        have h3 : zisL u = false := h2 u (by rw [show i - 1 = j by omega]; exact hj) (by omega)
        intro hc
        rw [(zcat ad u).mp hc] at h3
        cases h3
      · left
        exact hs
/-- the locals with which a method begins -/
theorem zexp_sl (ad : Nat → Nat) (as : List Value) : (lg_sl (as.map (ztv ad))).length = (zexp as).length := by
  induction as with
  | nil => rfl
  | cons v r ih =>
    unfold lg_sl at ih ⊢
    rw [List.map_cons, List.flatMap_cons, List.length_append, ih, zexp_cons]
    cases hv : zisL v with
    | true => rw [if_pos ((zcat ad v).mpr hv)]; simp [hv]; omega
    | false => rw [if_neg (fun q => by rw [(zcat ad v).mp q] at hv; cases hv)]; simp [hv]; omega
theorem zexp_args (ad : Nat → Nat) : ∀ (as : List Value) (i j : Nat) (v : Value), (zexp as)[j]? = some v → v ≠ zJ → (i + j, ztv ad v) ∈ lv_args i (as.map (ztv ad)) := by
  intro as
  induction as with
  | nil => intro i j v h; simp [zexp] at h
  | cons u r ih =>
    intro i j v h hv
    rw [List.map_cons, lv_args]
    rw [zexp_cons] at h
    cases hu : zisL u with
    | true =>
      rw [hu] at h
      simp only [cond_true] at h
      rw [if_pos ((zcat ad u).mpr hu)]
      match j, h with
      | 0, h => simp at h; subst h; exact List.mem_cons_self
      | 1, h => simp at h; exact absurd h.symm hv
      | j + 2, h =>
        have h' : (zexp r)[j]? = some v := by simpa using h
        have := ih (i + 2) j v h' hv
        rw [show i + 2 + j = i + (j + 2) by omega] at this
        exact List.mem_cons_of_mem _ this
    | false =>
      rw [hu] at h
      simp only [cond_false] at h
      rw [if_neg (fun q => by rw [(zcat ad u).mp q] at hu; cases hu)]
      match j, h with
      | 0, h => simp at h; subst h; exact List.mem_cons_self
      | j + 1, h =>
        have h' : (zexp r)[j]? = some v := by simpa using h
        have := ih (i + 1) j v h' hv
        rw [show i + 1 + j = i + (j + 1) by omega] at this
        exact List.mem_cons_of_mem _ this
theorem zent_LR (ad : Nat → Nat) (y : Nat) (as : List Value) (h : (zexp as).length ≤ zml y) :
    zLR ad (zent y as) ((lg_sl (as.map (ztv ad)) ++ List.replicate (zml y - (lg_sl (as.map (ztv ad))).length) Slot.unset).toArray) (zml y) := by
  have hl := zexp_sl ad as
  have he := lv_entry (as.map (ztv ad)) (n := zml y) (by rw [hl]; exact h)
  refine ⟨by simp [zent]; omega, he.1, he.2.1, fun i v hi hv => ?_⟩
  unfold zent at hi
  by_cases hlt : i < (zexp as).length
  · rw [List.getElem?_append_left hlt] at hi
    have := zexp_args ad as 0 i v hi hv
    rw [Nat.zero_add] at this
    exact he.2.2 _ this
  · rw [List.getElem?_append_right (by omega)] at hi
    have := List.mem_of_getElem? hi
    rw [List.mem_replicate] at this
    exact absurd this.2 hv
