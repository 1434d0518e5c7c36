/-! a step of the small machine is one of the machine's own -/
theorem zfit_ok (ad : Nat → Nat) {t : FieldType} {v : Value} (h : zfit t v = true) : narrow t (ztv ad v) = ztv ad v ∧ fits t (ztv ad v) = true := by
  cases t <;> cases v <;> first
    | (cases h; done)
    | exact ⟨rfl, rfl⟩
    | (simp only [zfit, Bool.or_eq_true, beq_iff_eq] at h
       rcases h with rfl | rfl
       · exact ⟨show narrow .boolean (.int 0) = .int 0 by decide, show fits .boolean (.int 0) = true by decide⟩
       · exact ⟨show narrow .boolean (.int 1) = .int 1 by decide, show fits .boolean (.int 1) = true by decide⟩)
theorem zsum (ad : Nat → Nat) : ∀ (r : List Value) (n : Nat), r.length ≤ n → ((r.map (ztv ad)).map fun v => v.category).sum ≤ 2 * n := by
  intro r
  induction r with
  | nil => intro n _; simp
  | cons v r ih =>
    intro n hn
    rw [List.length_cons] at hn
    obtain ⟨k, rfl⟩ : ∃ k, n = k + 1 := ⟨n - 1, by omega⟩
    have h1 := ih k (by omega)
    rw [List.map_cons, List.map_cons, List.sum_cons]
    rcases lv_cat (ztv ad v) with h | h <;> omega
theorem ztA_i (ad : Nat → Nat) (n : Nat) (f : Nat → Int32) : ztA ad (n, .inl f) = (n, .inl f) := rfl
theorem ztA_l (ad : Nat → Nat) (n : Nat) (f : Nat → Int64) : ztA ad (n, .inr (.inl f)) = (n, .inr (.inl f)) := rfl
theorem ztA_q (ad : Nat → Nat) (n : Nat) (f : Nat → Option Nat) : ztA ad (n, .inr (.inr (.inr (.inr f)))) = (n, .inr (.inr (.inr (.inr fun j => (f j).map ad)))) := rfl
theorem ztA_1 (ad : Nat → Nat) (a : vp_A) : (ztA ad a).1 = a.1 := by
  obtain ⟨n, f | f | f | f | f⟩ := a <;> rfl
theorem ztv_rf (ad : Nat → Nat) (r : Option Nat) : ztv ad (va_rf r) = va_rf (r.map ad) := by cases r <;> rfl
section ZST
variable {D : va_G} {b0 : Nat} {o sa : Nat → Nat} {y d : Nat} {h0 : zS} {p : Program} {l : Launch} {e : Env} {R : Room} {s : State} {m : MethodId} {args : Array Value} {below : List Frame} {meth : Method} {c : Code} {H : Heap} {locs : List Loc} {la : Array Slot} {cells slots : Nat} {Q : State → Prop}
variable {pc : Nat} {ls st : List Value} {h : zS}
def zK (D : va_G) (b0 : Nat) (o : Nat → Nat) (y : Nat) (h0 : zS) (p : Program) (l : Launch) (e : Env) (R : Room) (s : State) (m : MethodId) (args : Array Value) (below : List Frame) (meth : Method) (c : Code) (Q : State → Prop) (c' : zC) : Prop :=
  ∀ (H : Heap) (locs : List Loc) (la : Array Slot) (cells slots : Nat), zSt D b0 o y h0 s c'.2.2.2 c'.2.1 H locs la cells slots → W p l e R s m args below meth c H locs cells slots Q (F0 m c'.1 la (c'.2.2.1.map (ztv (zad b0 o))))
/-- an array that is not older than the law -/
theorem zarr {k t : Nat} {A : vp_A} (hR : zRel D b0 o s h H) (hk : h.2.2 k = some (.inl (t, A))) (ht : ¬ t = 9) : ∃ cA : ClassId, H[zad b0 o k]? = some (vp_cell cA (ztA (zad b0 o) A)) ∧ ArrOfT s cA (zaT t) ∧ va_RA s cA (zaT t) := by
  have h1 := (hR.2.2 k _ hk).2.2
  rw [zAt_inl, if_neg ht] at h1
  exact h1
theorem zSt.put {p0 : Nat} {e0 e1 : zE} {H1 : Heap} {i : Nat} (S : zSt D b0 o y h0 s h ls H locs la cells slots) (hp : h.2.2 p0 = some e0) (hp1 : 1000 ≤ p0) (z : H1.size = H.size) (oq : ∀ q : Nat, q ≠ zad b0 o p0 → H1[q]? = H[q]?)
    (he : zAt D (zad b0 o) (fun q => b0 ≤ q) s H1 p0 e1) : zSt D b0 o y h0 s (zput h p0 e1) ls H1 (locs ++ [⟨zad b0 o p0, i⟩]) la cells slots := by
  obtain ⟨hR, hS, hL, g⟩ := S
  exact ⟨hR.put hp hp1 z oq he, hS.put z oq (by show b0 ≤ zad b0 o p0; rw [zad_new b0 o hp1]; omega), hL, g⟩
theorem zSt.fresh {e1 : zE} {H1 : Heap} {n : Nat} (S : zSt D b0 o y h0 s h ls H locs la cells slots) (hz : H1.size = H.size + 1) (oq : ∀ q : Nat, q < H.size → H1[q]? = H[q]?)
    (he : zAt D (zad b0 o) (fun q => b0 ≤ q) s H1 h.1 e1) : zSt D b0 o y h0 s (znew h n e1) ls H1 locs la (cells + 1) (slots + n) := by
  obtain ⟨hR, hS, hL, g1, g2, g3, g4⟩ := S
  refine ⟨hR.fresh n hz oq he, ⟨Nat.le_trans hS.1 (by omega), fun x h1 h2 => (oq x (Nat.lt_of_lt_of_le h1 hS.1)).trans (hS.2.1 x h1 h2), hS.2.2⟩, hL, ?_, ?_, ?_, ?_⟩
  · show h0.1 ≤ h.1 + 1; omega
  · show h0.2.1 ≤ h.2.1 + n; omega
  · show cells + 1 = h.1 + 1 - h0.1; omega
  · show slots + n = h.2.1 + n - h0.2.1; omega
theorem zSt.loc {ls' : List Value} {la' : Array Slot} (S : zSt D b0 o y h0 s h ls H locs la cells slots) (hl : zLR (zad b0 o) ls' la' (zml y)) : zSt D b0 o y h0 s h ls' H locs la' cells slots := ⟨S.1, S.2.1, hl, S.2.2.2⟩
set_option maxHeartbeats 4000000 in
theorem zs_getf (M : zMx D b0 o sa y d p l R s m args meth c) {i a b len kk q : Nat} (hd : decode (zcode y) pc = .ok (.getfield i, 3)) (hX : zokX y pc (.getfield i, len, a, b, kk, q) = true) (S : zSt D b0 o y h0 s h ls H locs la cells slots) {c' : zC}
    (hs : z_getf a b (pc + 3) ls st h = some c') (k : zK D b0 o y h0 p l e R s m args below meth c Q c') : W p l e R s m args below meth c H locs cells slots Q (F0 m pc la (st.map (ztv (zad b0 o)))) := by
  obtain ⟨hx, hb, hml, hown, hts, hr, hlk, hnm, htb, OK, hRf, hRl⟩ := M
  obtain ⟨p0, r, fs, v, rfl, hg, hv, rfl⟩ := z_getf_inv hs
  simp only [zokX, Bool.and_eq_true] at hX
  obtain ⟨⟨h1, h2⟩, h3⟩ := hX
  have hb' : b < (zcl a).2.2 := zblt h2
  have ha : a < 10 := zblt h3
  have hat : va_at D vwCl (zad b0 o p0, .inr (a, fs.map (ztv (zad b0 o)))) H := (S.1.2.2 p0 _ hg).2.2
  have hP : va_P D vwCl [(zad b0 o p0, .inr (a, fs.map (ztv (zad b0 o))))] H := fun k q hk => by
    match k, hk with
    | 0, hk => cases hk; exact hat
  exact va_get (D := D) (ci := a) (v := ztv (zad b0 o) v) (C := (zcl a).1) (T := (zcl a).2.1) (N := (zcl a).2.2) hx hb hts (zin_ws ha) hown OK.2.2.1 hP 0 rfl (zcl_get ha) b hb' (hts _ (zhas_in h1)) (fun _ h9 => h9) (by rw [List.getElem?_map, hv]; rfl) hd (k H locs la cells slots S)
set_option maxHeartbeats 4000000 in
theorem zs_putf (M : zMx D b0 o sa y d p l R s m args meth c) {i a b len kk q : Nat} (hd : decode (zcode y) pc = .ok (.putfield i, 3)) (hX : zokX y pc (.putfield i, len, a, b, kk, q) = true) (S : zSt D b0 o y h0 s h ls H locs la cells slots) {c' : zC}
    (hs : z_putf a b (pc + 3) ls st h = some c') (k : zK D b0 o y h0 p l e R s m args below meth c Q c') : W p l e R s m args below meth c H locs cells slots Q (F0 m pc la (st.map (ztv (zad b0 o)))) := by
  obtain ⟨hx, hb, hml, hown, hts, hr, hlk, hnm, htb, OK, hRf, hRl⟩ := M
  obtain ⟨v, p0, r, fs, rfl, hg, hlen, hp1, hfit, rfl⟩ := z_putf_inv hs
  simp only [zokX, Bool.and_eq_true] at hX
  obtain ⟨⟨⟨h1, h2⟩, h3⟩, h4⟩ := hX
  have hb' : b < (zcl a).2.2 := zblt h2
  have ha : a < 10 := zblt h3
  have hat : va_at D vwCl (zad b0 o p0, .inr (a, fs.map (ztv (zad b0 o)))) H := (S.1.2.2 p0 _ hg).2.2
  have hap := va_apart (D := D) (tys := []) (own := (znm y).cls) hts (zin_ws ha) (zty a) (zty_ok ha) (znm_ok ha) OK.2.2.1 (zcl_get ha)
  have hd' := zty_ok ha b hb'
  obtain ⟨hn, hft⟩ := zfit_ok (zad b0 o) hfit
  obtain ⟨r', e1, cell, q1, q2, q3, q4⟩ := hat
  have hr' : r' = ((zcl a).1, (zcl a).2.1, (zcl a).2.2) := Option.some.inj (e1.symm.trans (zcl_get ha))
  subst hr'
  obtain ⟨hSl, hfc, kC, hkC, hkind⟩ := OK.2.2.1.1 a _ (zcl_get ha)
  obtain ⟨cf, kf, fi, f, hi, hsl⟩ := hSl b hb'
  have hlay := hts _ (zin_ws ha _ (u_in_lay hb'))
  have hst := (u_facts hfc hkC (u_lays hts (zin_ws ha) hb') hi).1
  have fin : ∀ (H' : Heap) (i9 : Nat), H'[zad b0 o p0]? = some (cell.setSlot (D.2 a b) (ztv (zad b0 o) v)) → H'.size = H.size → (∀ q, q ≠ zad b0 o p0 → H'[q]? = H[q]?) → W p l e R s m args below meth c H' (locs ++ [⟨zad b0 o p0, i9⟩]) cells slots Q (F0 m (pc + 3) la (r.map (ztv (zad b0 o)))) := by
    intro H' i9 w1 w2 w3
    refine k H' _ la cells slots (S.put hg hp1 w2 w3 ?_)
    show va_at D vwCl (zad b0 o p0, .inr (a, (fs.set b v).map (ztv (zad b0 o)))) H'
    rw [List.map_set]
    exact ⟨_, zcl_get ha, t_OB.to (V := updV (vp_V (fs.map (ztv (zad b0 o)))) b (ztv (zad b0 o) v)) ⟨_, w1, q2, q3, t_set q4 hap hb' _⟩ (fun j _ => vp_updV_set (by rw [List.length_map]; exact hlen) _ j)⟩
  by_cases hf : ((zcl a).2.1 b).2.2.2 = true
  · rw [hf] at h4
    simp only [Bool.not_true, Bool.false_or, Bool.and_eq_true] at h4
    have hin2 : meth.name = "<init>" := hnm.trans (of_decide_eq_true h4.1)
    have hdecl : ((zcl a).2.1 b).1 = (znm y).cls := of_decide_eq_true h4.2
    unfold u_lay at hlay
    rw [if_pos hf] at hlay
    have hcf : m.cls = cf := by
      obtain ⟨_, _, c', _, _, _, -, -, hf', -, -, -, hown2, -⟩ := Cond.laysFinal_spec hlay
      have e1 : c' = cf := by have := hi.symm.trans hf'; simp at this; exact this.1.symm
      rw [hdecl] at hown2
      rw [← e1]; exact Option.some.inj (hown.symm.trans hown2)
    have h6 := u_fits hfc hkC hkind (Or.inr hlay) hi hd' hn hft
    refine W.putFinK hx hb hown (hts _ (zhas_in h1)) hi hst hcf hin2 (by rw [q2]; exact h6) q1 q3 (by rw [hsl]; exact k2_hasslot (q4 b hb')) rfl rfl hd fun H' w1 w2 w3 => ?_
    rw [hsl] at w1
    exact fin H' _ w1 w2 w3
  · have hf : ((zcl a).2.1 b).2.2.2 = false := by simpa using hf
    unfold u_lay at hlay
    rw [if_neg (by rw [hf]; decide)] at hlay
    have h6 := u_store hfc hkC hkind hlay hi hd' hn hft
    refine W.putK hx hb (f := f) ⟨hown, hts _ (zhas_in h1), ⟨_, _, _, hi⟩, hst⟩ (by rw [q2]; exact h6) q1 q3 (by rw [hsl]; exact k2_hasslot (q4 b hb')) rfl rfl hd fun H' w1 w2 w3 => ?_
    rw [hsl] at w1
    exact fin H' _ w1 w2 w3
set_option maxHeartbeats 4000000 in
theorem zs_iald (M : zMx D b0 o sa y d p l R s m args meth c) (hd : decode (zcode y) pc = .ok (.iaload, 1)) (S : zSt D b0 o y h0 s h ls H locs la cells slots) {c' : zC}
    (hs : z_iald (pc + 1) ls st h = some c') (k : zK D b0 o y h0 p l e R s m args below meth c Q c') : W p l e R s m args below meth c H locs cells slots Q (F0 m pc la (st.map (ztv (zad b0 o)))) := by
  obtain ⟨hx, hb, hml, hown, hts, hr, hlk, hnm, htb, OK, hRf, hRl⟩ := M
  obtain ⟨i, p0, r, t, n, f, rfl, hg, ht, hin, rfl⟩ := z_iald_inv hs
  have hlt : i.toNatClampNeg < n := Nat.not_le.mp fun q => hin (Or.inr q)
  rcases ht with rfl | rfl
  · obtain ⟨cA, h1, h2, -⟩ := zarr S.1 hg (by decide)
    rw [ztA_i] at h1
    exact W.iald (v := .int (f i.toNatClampNeg)) hx hb h1 (h2 n (fun j => .int (f j))) (fun q => by cases q) (by show ¬ (i < 0 ∨ (arrV _ _ _).slots.size ≤ _); rw [arrV_size]; exact hin) (by show (arrV _ _ _).slots[_]? = _; rw [arrV_read _ _ hlt]) rfl rfl hd (k H locs la cells slots S)
  · have h1 := (S.1.2.2 p0 _ hg).2.2
    rw [zAt_inl, if_pos rfl] at h1
    obtain ⟨f', hf', cell, a1, a2, a3, a4, a5, a6, a7⟩ := h1
    cases hf'
    exact W.iald (v := .int (f i.toNatClampNeg)) hx hb a1 a2 a3 (fun q => by rcases q with q | q; exact hin (Or.inl q); exact absurd (Nat.lt_of_lt_of_le hlt a4) (by omega)) (a6 _ hlt) rfl rfl hd (k H locs la cells slots S)
set_option maxHeartbeats 4000000 in
theorem zs_zald (M : zMx D b0 o sa y d p l R s m args meth c) (hd : decode (zcode y) pc = .ok (.baload, 1)) (S : zSt D b0 o y h0 s h ls H locs la cells slots) {c' : zC}
    (hs : z_zald (pc + 1) ls st h = some c') (k : zK D b0 o y h0 p l e R s m args below meth c Q c') : W p l e R s m args below meth c H locs cells slots Q (F0 m pc la (st.map (ztv (zad b0 o)))) := by
  obtain ⟨hx, hb, hml, hown, hts, hr, hlk, hnm, htb, OK, hRf, hRl⟩ := M
  obtain ⟨i, p0, r, n, f, rfl, hg, hin, rfl⟩ := z_zald_inv hs
  have hlt : i.toNatClampNeg < n := Nat.not_le.mp fun q => hin (Or.inr q)
  obtain ⟨cA, h1, h2, -⟩ := zarr S.1 hg (by decide)
  rw [ztA_i] at h1
  exact W.zald (v := .int (f i.toNatClampNeg)) hx hb h1 (h2 n (fun j => .int (f j))) (fun q => by cases q) (by show ¬ (i < 0 ∨ (arrV _ _ _).slots.size ≤ _); rw [arrV_size]; exact hin) (by show (arrV _ _ _).slots[_]? = _; rw [arrV_read _ _ hlt]) rfl rfl hd (k H locs la cells slots S)
set_option maxHeartbeats 4000000 in
theorem zs_lald (M : zMx D b0 o sa y d p l R s m args meth c) (hd : decode (zcode y) pc = .ok (.laload, 1)) (S : zSt D b0 o y h0 s h ls H locs la cells slots) {c' : zC}
    (hs : z_lald (pc + 1) ls st h = some c') (k : zK D b0 o y h0 p l e R s m args below meth c Q c') : W p l e R s m args below meth c H locs cells slots Q (F0 m pc la (st.map (ztv (zad b0 o)))) := by
  obtain ⟨hx, hb, hml, hown, hts, hr, hlk, hnm, htb, OK, hRf, hRl⟩ := M
  obtain ⟨i, p0, r, n, f, rfl, hg, hin, rfl⟩ := z_lald_inv hs
  have hlt : i.toNatClampNeg < n := Nat.not_le.mp fun q => hin (Or.inr q)
  obtain ⟨cA, h1, h2, -⟩ := zarr S.1 hg (by decide)
  rw [ztA_l] at h1
  exact W.lald (v := .long (f i.toNatClampNeg)) hx hb h1 (h2 n (fun j => .long (f j))) (fun q => by cases q) (by show ¬ (i < 0 ∨ (arrV _ _ _).slots.size ≤ _); rw [arrV_size]; exact hin) (by show (arrV _ _ _).slots[_]? = _; rw [arrV_read _ _ hlt]) rfl rfl hd (k H locs la cells slots S)
theorem zaT_q {t : Nat} (ht : t = 3 ∨ t = 4) : zaT t = .object (zAn t) := by rcases ht with rfl | rfl <;> rfl
set_option maxHeartbeats 4000000 in
theorem zs_aald (M : zMx D b0 o sa y d p l R s m args meth c) (hd : decode (zcode y) pc = .ok (.aaload, 1)) (S : zSt D b0 o y h0 s h ls H locs la cells slots) {c' : zC}
    (hs : z_aald (pc + 1) ls st h = some c') (k : zK D b0 o y h0 p l e R s m args below meth c Q c') : W p l e R s m args below meth c H locs cells slots Q (F0 m pc la (st.map (ztv (zad b0 o)))) := by
  obtain ⟨hx, hb, hml, hown, hts, hr, hlk, hnm, htb, OK, hRf, hRl⟩ := M
  obtain ⟨i, p0, r, t, n, f, rfl, hg, ht, hin, rfl⟩ := z_aald_inv hs
  have hlt : i.toNatClampNeg < n := Nat.not_le.mp fun q => hin (Or.inr q)
  obtain ⟨cA, h1, h2, -⟩ := zarr S.1 hg (by rcases ht with rfl | rfl <;> decide)
  rw [ztA_q] at h1
  rw [zaT_q ht] at h2
  have kk := k H locs la cells slots S
  have e9 : (va_rf (f i.toNatClampNeg) :: r).map (ztv (zad b0 o)) = va_rf ((f i.toNatClampNeg).map (zad b0 o)) :: r.map (ztv (zad b0 o)) := by rw [List.map_cons, ztv_rf]
  have kk2 : W p l e R s m args below meth c H locs cells slots Q (F0 m (pc + 1) la (va_rf ((f i.toNatClampNeg).map (zad b0 o)) :: r.map (ztv (zad b0 o)))) := by rw [← e9]; exact kk
  exact W.aald (v := va_rf ((f i.toNatClampNeg).map (zad b0 o))) (ty := .object (zAn t)) hx hb h1 (h2 n (fun j => va_rf ((f j).map (zad b0 o)))) rfl (fun q => by cases q) (by show ¬ (i < 0 ∨ (arrV _ _ _).slots.size ≤ _); rw [arrV_size]; exact hin) (by show (arrV _ _ _).slots[_]? = _; rw [arrV_read _ _ hlt]) rfl rfl hd kk2
theorem zAt_arr {k t : Nat} {A : vp_A} {cA : ClassId} {H1 : Heap} (ht : ¬ t = 9) (h1 : H1[zad b0 o k]? = some (vp_cell cA (ztA (zad b0 o) A))) (h2 : ArrOfT s cA (zaT t)) (h3 : va_RA s cA (zaT t)) : zAt D (zad b0 o) (fun q => b0 ≤ q) s H1 k (.inl (t, A)) := by
  rw [zAt_inl, if_neg ht]
  exact ⟨cA, h1, h2, h3⟩
set_option maxHeartbeats 4000000 in
theorem zs_iast (M : zMx D b0 o sa y d p l R s m args meth c) (hd : decode (zcode y) pc = .ok (.iastore, 1)) (S : zSt D b0 o y h0 s h ls H locs la cells slots) {c' : zC}
    (hs : z_iast (pc + 1) ls st h = some c') (k : zK D b0 o y h0 p l e R s m args below meth c Q c') : W p l e R s m args below meth c H locs cells slots Q (F0 m pc la (st.map (ztv (zad b0 o)))) := by
  obtain ⟨hx, hb, hml, hown, hts, hr, hlk, hnm, htb, OK, hRf, hRl⟩ := M
  obtain ⟨x, i, p0, r, n, f, rfl, hg, hp1, hin, rfl⟩ := z_iast_inv hs
  obtain ⟨cA, h1, h2, h3⟩ := zarr S.1 hg (by decide)
  rw [ztA_i] at h1
  refine W.iast hx hb h1 (h2 n (fun j => .int (f j))) (fun q => by cases q) (by show ¬ (i < 0 ∨ (arrV _ _ _).slots.size ≤ _); rw [arrV_size]; exact hin) rfl rfl hd fun H1 w z oq => ?_
  refine k H1 _ la cells slots (S.put hg hp1 z oq (zAt_arr (by decide) ?_ h2 h3))
  rw [w, ztA_i, vp_cell_i, vp_cell_i, arrV_store]
  congr 2
  funext q
  by_cases hq : q = i.toNatClampNeg
  · subst hq; simp [updV, upd]
  · simp [updV, upd, hq]
set_option maxHeartbeats 4000000 in
theorem zs_zast (M : zMx D b0 o sa y d p l R s m args meth c) (hd : decode (zcode y) pc = .ok (.bastore, 1)) (S : zSt D b0 o y h0 s h ls H locs la cells slots) {c' : zC}
    (hs : z_zast (pc + 1) ls st h = some c') (k : zK D b0 o y h0 p l e R s m args below meth c Q c') : W p l e R s m args below meth c H locs cells slots Q (F0 m pc la (st.map (ztv (zad b0 o)))) := by
  obtain ⟨hx, hb, hml, hown, hts, hr, hlk, hnm, htb, OK, hRf, hRl⟩ := M
  obtain ⟨x, i, p0, r, n, f, rfl, hg, hp1, hin, rfl⟩ := z_zast_inv hs
  obtain ⟨cA, h1, h2, h3⟩ := zarr S.1 hg (by decide)
  rw [ztA_i] at h1
  refine W.zast hx hb h1 (h2 n (fun j => .int (f j))) (fun q => by cases q) (by show ¬ (i < 0 ∨ (arrV _ _ _).slots.size ≤ _); rw [arrV_size]; exact hin) rfl rfl hd fun H1 w z oq => ?_
  refine k H1 _ la cells slots (S.put hg hp1 z oq (zAt_arr (by decide) ?_ h2 h3))
  rw [w, ztA_i, vp_cell_i, vp_cell_i, arrV_store]
  congr 2
  funext q
  by_cases hq : q = i.toNatClampNeg
  · subst hq
    simp [updV, upd, vp_nar]
    try rfl
  · simp [updV, upd, hq]
set_option maxHeartbeats 4000000 in
theorem zs_last (M : zMx D b0 o sa y d p l R s m args meth c) (hd : decode (zcode y) pc = .ok (.lastore, 1)) (S : zSt D b0 o y h0 s h ls H locs la cells slots) {c' : zC}
    (hs : z_last (pc + 1) ls st h = some c') (k : zK D b0 o y h0 p l e R s m args below meth c Q c') : W p l e R s m args below meth c H locs cells slots Q (F0 m pc la (st.map (ztv (zad b0 o)))) := by
  obtain ⟨hx, hb, hml, hown, hts, hr, hlk, hnm, htb, OK, hRf, hRl⟩ := M
  obtain ⟨x, i, p0, r, n, f, rfl, hg, hp1, hin, rfl⟩ := z_last_inv hs
  obtain ⟨cA, h1, h2, h3⟩ := zarr S.1 hg (by decide)
  rw [ztA_l] at h1
  refine W.last hx hb h1 (h2 n (fun j => .long (f j))) (fun q => by cases q) (by show ¬ (i < 0 ∨ (arrV _ _ _).slots.size ≤ _); rw [arrV_size]; exact hin) rfl rfl hd fun H1 w z oq => ?_
  refine k H1 _ la cells slots (S.put hg hp1 z oq (zAt_arr (by decide) ?_ h2 h3))
  rw [w, ztA_l, vp_cell_l, vp_cell_l, arrV_store]
  congr 2
  funext q
  by_cases hq : q = i.toNatClampNeg
  · subst hq; simp [updV, vp_updL]
  · simp [updV, vp_updL, hq]
theorem zac_ok {t : Nat} (ht : t = 3 ∨ t = 4) : zac t < 10 ∧ (zcl (zac t)).1 = zAn t := by rcases ht with rfl | rfl <;> exact ⟨by decide, rfl⟩
set_option maxHeartbeats 4000000 in
theorem zs_aast (M : zMx D b0 o sa y d p l R s m args meth c) (hd : decode (zcode y) pc = .ok (.aastore, 1)) (S : zSt D b0 o y h0 s h ls H locs la cells slots) {c' : zC}
    (hs : z_aast (pc + 1) ls st h = some c') (k : zK D b0 o y h0 p l e R s m args below meth c Q c') : W p l e R s m args below meth c H locs cells slots Q (F0 m pc la (st.map (ztv (zad b0 o)))) := by
  obtain ⟨hx, hb, hml, hown, hts, hr, hlk, hnm, htb, OK, hRf, hRl⟩ := M
  rcases z_aast_inv hs with ⟨v, i, p0, r, t, n, f, ci, vs, rfl, hg, hv, ht, rfl, hp1, hin, rfl⟩ | ⟨i, p0, r, t, n, f, rfl, hg, ht, hp1, hin, rfl⟩
  · obtain ⟨cA, h1, h2, h3⟩ := zarr S.1 hg (by rcases ht with rfl | rfl <;> decide)
    have h2' := h2
    have h3' := h3
    rw [ztA_q] at h1
    rw [zaT_q ht] at h2 h3
    have hlt : i.toNatClampNeg < n := Nat.not_le.mp fun q => hin (Or.inr q)
    have hi0 : ¬ i < 0 := fun q => hin (Or.inl q)
    have hat : va_at D vwCl (zad b0 o v, .inr (zac t, vs.map (ztv (zad b0 o)))) H := (S.1.2.2 v _ hv).2.2
    obtain ⟨r', hr', cellV, g1, g2, g3, -⟩ := hat
    obtain ⟨hz1, hz2⟩ := zac_ok ht
    have hcls := (OK.2.2.1.1 (zac t) _ (zcl_get hz1)).2
    obtain ⟨kA, comp, k1, k2, k3, -⟩ := h3
    have hcomp : comp = D.1 (zac t) := Option.some.inj (k3.symm.trans (by rw [← hz2]; exact hcls.1))
    subst hcomp
    have hcls2 := hcls
    obtain ⟨kC, hkC, -⟩ := hcls.2
    refine W.aast hx hb h1 (fun q h => by cases h) (fun h => by cases h) k1 k2 rfl hkC ⟨hi0, by show _ < (arrV _ _ _).slots.size; rw [arrV_size]; exact hlt⟩ g1 (fun q h => by rw [g3] at h; cases h) (by rw [g2]; exact hkC) (by rw [g2]; exact va_assign hcls2) rfl rfl hd fun H1 w z oq => ?_
    refine k H1 _ la cells slots (S.put hg hp1 z oq (zAt_arr (by rcases ht with rfl | rfl <;> decide) ?_ h2' h3'))
    rw [w, ztA_q, vp_cell_q, vp_cell_q, arrV_store]
    congr 2
    funext q
    by_cases hq : q = i.toNatClampNeg
    · subst hq; simp [updV, va_up, va_rf]
    · simp [updV, va_up, hq]
  · obtain ⟨cA, h1, h2, h3⟩ := zarr S.1 hg (by rcases ht with rfl | rfl <;> decide)
    have h2' := h2
    rw [ztA_q] at h1
    rw [zaT_q ht] at h2
    refine va_WaastN (C := zAn t) hx hb h1 (h2 n (fun j => va_rf ((f j).map (zad b0 o)))) (fun h => by cases h) (by show ¬ (i < 0 ∨ (arrV _ _ _).slots.size ≤ _); rw [arrV_size]; exact hin) rfl rfl hd fun H1 w z oq => ?_
    refine k H1 _ la cells slots (S.put hg hp1 z oq (zAt_arr (by rcases ht with rfl | rfl <;> decide) ?_ h2' h3))
    rw [w, ztA_q, vp_cell_q, vp_cell_q, arrV_store]
    congr 2
    funext q
    by_cases hq : q = i.toNatClampNeg
    · subst hq; simp [updV, va_up, va_rf]
    · simp [updV, va_up, hq]
end ZST
