section IA2
variable {p : Program} {l : Launch} {e : Env} {R : Room} {s : State} {m : MethodId} {args : Array Value} {below : List Frame} {meth : Method} {c : Code} {Q : State → Prop} {cells slots : Nat}
variable {cc : ByteArray} {D : va_G} {cl : List vw_C} {A : Nat → Prop} {tys : List (ClassId × FieldType)} {H0 : Heap} {Sh : List ia_C} {ad : Nat → Nat} {ca : Nat → ClassId} {nL : Nat}
variable {C : Nat → List Value → ia_H → Option Value → ia_H → Prop} {Z : Option Value → ia_H → Prop} {pc a b w : Nat} {v : Value} {ts : List (Int × Nat)} {ls : ia_L} {st : List Value} {hh : ia_H}
/-- no array is longer than an int can count -/
def ia_Z (Sh : List ia_C) : Prop := ∀ (x : Nat) (ty : FieldType) (n : Nat), ia_at? Sh x = some (.inl (ty, n)) → n < 2 ^ 31
/-- each array cell's class is known -/
def ia_T (Sh : List ia_C) (ca : Nat → ClassId) (tys : List (ClassId × FieldType)) : Prop :=
  (∀ (x : Nat) (ty : FieldType) (n : Nat), ia_at? Sh x = some (.inl (ty, n)) → ∃ t0 : Nat, tys[t0]? = some (ca x, ty)) ∧ ∀ (x : Nat) (C : String) (l : List Nat), ia_at? Sh x = some (.inr (.inr (C, l))) → ∃ t0 : Nat, tys[t0]? = some (ca x, .object C)
theorem ia_s_iaload (hx : p.tables.exec = Jvm.exec) (hb : c.code = cc) (hK : va_K D cl tys s) (hT : ia_T Sh ca tys) (hZ : ia_Z Sh) (hdg : decode cc pc = .ok (.iaload, 1)) (h : ia_pre C Z (ia_X p l e R s m args below meth c Q cells slots D cl A H0 Sh ad ca nL) (ia_f Sh (pc, .iaload, 1, a, b, w, v, ts) ls st hh)) : ia_X p l e R s m args below meth c Q cells slots D cl A H0 Sh ad ca nL (pc, ls, st, hh) := by
  simp only [ia_f] at h
  split at h <;> first | exact h.elim | skip
  split at h <;> first | exact h.elim | skip
  rename_i hc
  obtain ⟨t0, ht0⟩ := hT.1 _ _ _ hc
  obtain ⟨j, ⟨hij, hj⟩, h⟩ := h
  have e0 : j = (nI j).toNatClampNeg := (nI_clamp (Nat.lt_trans hj (hZ _ _ _ hc))).symm
  rw [e0] at h
  subst hij
  intro H locs lc hP hD hS hR
  exact va_iald hx hb hK hP _ t0 (ia_w_at hc) ht0 (vp_in_nI hj (hZ _ _ _ hc)) hdg (h H locs lc hP hD hS hR)
theorem ia_s_laload (hx : p.tables.exec = Jvm.exec) (hb : c.code = cc) (hK : va_K D cl tys s) (hT : ia_T Sh ca tys) (hZ : ia_Z Sh) (hdg : decode cc pc = .ok (.laload, 1)) (h : ia_pre C Z (ia_X p l e R s m args below meth c Q cells slots D cl A H0 Sh ad ca nL) (ia_f Sh (pc, .laload, 1, a, b, w, v, ts) ls st hh)) : ia_X p l e R s m args below meth c Q cells slots D cl A H0 Sh ad ca nL (pc, ls, st, hh) := by
  simp only [ia_f] at h
  split at h <;> first | exact h.elim | skip
  split at h <;> first | exact h.elim | skip
  rename_i hc
  obtain ⟨t0, ht0⟩ := hT.1 _ _ _ hc
  obtain ⟨j, ⟨hij, hj⟩, h⟩ := h
  have e0 : j = (nI j).toNatClampNeg := (nI_clamp (Nat.lt_trans hj (hZ _ _ _ hc))).symm
  rw [e0] at h
  subst hij
  intro H locs lc hP hD hS hR
  exact va_lald hx hb hK hP _ t0 (ia_w_at hc) ht0 (vp_in_nI hj (hZ _ _ _ hc)) hdg (h H locs lc hP hD hS hR)
theorem ia_s_baload (hx : p.tables.exec = Jvm.exec) (hb : c.code = cc) (hK : va_K D cl tys s) (hT : ia_T Sh ca tys) (hZ : ia_Z Sh) (hdg : decode cc pc = .ok (.baload, 1)) (h : ia_pre C Z (ia_X p l e R s m args below meth c Q cells slots D cl A H0 Sh ad ca nL) (ia_f Sh (pc, .baload, 1, a, b, w, v, ts) ls st hh)) : ia_X p l e R s m args below meth c Q cells slots D cl A H0 Sh ad ca nL (pc, ls, st, hh) := by
  simp only [ia_f] at h
  split at h <;> first | exact h.elim | skip
  split at h <;> first | exact h.elim | skip
  · rename_i hc
    obtain ⟨t0, ht0⟩ := hT.1 _ _ _ hc
    obtain ⟨j, ⟨hij, hj⟩, h⟩ := h
    have e0 : j = (nI j).toNatClampNeg := (nI_clamp (Nat.lt_trans hj (hZ _ _ _ hc))).symm
    rw [e0] at h
    subst hij
    intro H locs lc hP hD hS hR
    exact va_bald hx hb hK hP _ t0 (ia_w_at hc) ht0 (vp_in_nI hj (hZ _ _ _ hc)) hdg (h H locs lc hP hD hS hR)
  · rename_i hc
    obtain ⟨t0, ht0⟩ := hT.1 _ _ _ hc
    obtain ⟨j, ⟨hij, hj⟩, h⟩ := h
    have e0 : j = (nI j).toNatClampNeg := (nI_clamp (Nat.lt_trans hj (hZ _ _ _ hc))).symm
    rw [e0] at h
    subst hij
    intro H locs lc hP hD hS hR
    exact va_zald hx hb hK hP _ t0 (ia_w_at hc) ht0 (vp_in_nI hj (hZ _ _ _ hc)) hdg (h H locs lc hP hD hS hR)
theorem ia_s_iastore (hx : p.tables.exec = Jvm.exec) (hb : c.code = cc) (hK : va_K D cl tys s) (hT : ia_T Sh ca tys) (hZ : ia_Z Sh) (hdg : decode cc pc = .ok (.iastore, 1)) (h : ia_pre C Z (ia_X p l e R s m args below meth c Q cells slots D cl A H0 Sh ad ca nL) (ia_f Sh (pc, .iastore, 1, a, b, w, v, ts) ls st hh)) : ia_X p l e R s m args below meth c Q cells slots D cl A H0 Sh ad ca nL (pc, ls, st, hh) := by
  simp only [ia_f] at h
  split at h <;> first | exact h.elim | skip
  split at h <;> first | exact h.elim | skip
  rename_i z i x st' _ n hc
  obtain ⟨t0, ht0⟩ := hT.1 _ _ _ hc
  obtain ⟨j, ⟨hij, hj⟩, h⟩ := h
  have e0 : j = (nI j).toNatClampNeg := (nI_clamp (Nat.lt_trans hj (hZ _ _ _ hc))).symm
  rw [e0] at h
  subst hij
  intro H locs lc hP hD hS hR
  have e := ia_w_set (ad := ad) (ca := ca) (h := hh) (h' := (ia_uI hh.1 x (nI j).toNatClampNeg z, hh.2)) hc (fun y hy => ia_uI_ne hy) (fun y _ => rfl) (v := .inl (ca x, n, .inl (upd (hh.1 x) (nI j).toNatClampNeg z))) (by simp only [ia_cell, ia_uI, if_true])
  exact va_iast hx hb hK hP hD hS _ t0 (ia_w_at hc) ht0 (vp_in_nI hj (hZ _ _ _ hc)) hdg (fun H1 locs1 hP1 hD1 hS1 => h H1 locs1 lc (e ▸ hP1) (e ▸ hD1) hS1 hR)
theorem ia_s_bastore (hx : p.tables.exec = Jvm.exec) (hb : c.code = cc) (hK : va_K D cl tys s) (hT : ia_T Sh ca tys) (hZ : ia_Z Sh) (hdg : decode cc pc = .ok (.bastore, 1)) (h : ia_pre C Z (ia_X p l e R s m args below meth c Q cells slots D cl A H0 Sh ad ca nL) (ia_f Sh (pc, .bastore, 1, a, b, w, v, ts) ls st hh)) : ia_X p l e R s m args below meth c Q cells slots D cl A H0 Sh ad ca nL (pc, ls, st, hh) := by
  simp only [ia_f] at h
  split at h <;> first | exact h.elim | skip
  split at h <;> first | exact h.elim | skip
  · rename_i z i x st' _ n hc
    obtain ⟨t0, ht0⟩ := hT.1 _ _ _ hc
    obtain ⟨j, ⟨hij, hj⟩, h⟩ := h
    have e0 : j = (nI j).toNatClampNeg := (nI_clamp (Nat.lt_trans hj (hZ _ _ _ hc))).symm
    rw [e0] at h
    subst hij
    intro H locs lc hP hD hS hR
    have e := ia_w_set (ad := ad) (ca := ca) (h := hh) (h' := (ia_uI hh.1 x (nI j).toNatClampNeg (vp_nar .byte z), hh.2)) hc (fun y hy => ia_uI_ne hy) (fun y _ => rfl) (v := .inl (ca x, n, .inl (upd (hh.1 x) (nI j).toNatClampNeg (vp_nar .byte z)))) (by simp only [ia_cell, ia_uI, if_true])
    exact va_bast hx hb hK hP hD hS _ t0 (ia_w_at hc) ht0 (vp_in_nI hj (hZ _ _ _ hc)) hdg (fun H1 locs1 hP1 hD1 hS1 => h H1 locs1 lc (e ▸ hP1) (e ▸ hD1) hS1 hR)
  · rename_i z i x st' _ n hc
    obtain ⟨t0, ht0⟩ := hT.1 _ _ _ hc
    obtain ⟨j, ⟨hij, hj⟩, h⟩ := h
    have e0 : j = (nI j).toNatClampNeg := (nI_clamp (Nat.lt_trans hj (hZ _ _ _ hc))).symm
    rw [e0] at h
    subst hij
    intro H locs lc hP hD hS hR
    have e := ia_w_set (ad := ad) (ca := ca) (h := hh) (h' := (ia_uI hh.1 x (nI j).toNatClampNeg (vp_nar .boolean z), hh.2)) hc (fun y hy => ia_uI_ne hy) (fun y _ => rfl) (v := .inl (ca x, n, .inl (upd (hh.1 x) (nI j).toNatClampNeg (vp_nar .boolean z)))) (by simp only [ia_cell, ia_uI, if_true])
    exact va_zast hx hb hK hP hD hS _ t0 (ia_w_at hc) ht0 (vp_in_nI hj (hZ _ _ _ hc)) hdg (fun H1 locs1 hP1 hD1 hS1 => h H1 locs1 lc (e ▸ hP1) (e ▸ hD1) hS1 hR)
theorem ia_s_lastore (hx : p.tables.exec = Jvm.exec) (hb : c.code = cc) (hK : va_K D cl tys s) (hT : ia_T Sh ca tys) (hZ : ia_Z Sh) (hdg : decode cc pc = .ok (.lastore, 1)) (h : ia_pre C Z (ia_X p l e R s m args below meth c Q cells slots D cl A H0 Sh ad ca nL) (ia_f Sh (pc, .lastore, 1, a, b, w, v, ts) ls st hh)) : ia_X p l e R s m args below meth c Q cells slots D cl A H0 Sh ad ca nL (pc, ls, st, hh) := by
  simp only [ia_f] at h
  split at h <;> first | exact h.elim | skip
  split at h <;> first | exact h.elim | skip
  rename_i z i x st' _ n hc
  obtain ⟨t0, ht0⟩ := hT.1 _ _ _ hc
  obtain ⟨j, ⟨hij, hj⟩, h⟩ := h
  have e0 : j = (nI j).toNatClampNeg := (nI_clamp (Nat.lt_trans hj (hZ _ _ _ hc))).symm
  rw [e0] at h
  subst hij
  intro H locs lc hP hD hS hR
  have e := ia_w_set (ad := ad) (ca := ca) (h := hh) (h' := (hh.1, ia_uL hh.2 x (nI j).toNatClampNeg z)) hc (fun y _ => rfl) (fun y hy => ia_uL_ne hy) (v := .inl (ca x, n, .inr (.inl (vp_updL (hh.2 x) (nI j).toNatClampNeg z)))) (by simp only [ia_cell, ia_uL, if_true])
  exact va_last hx hb hK hP hD hS _ t0 (ia_w_at hc) ht0 (vp_in_nI hj (hZ _ _ _ hc)) hdg (fun H1 locs1 hP1 hD1 hS1 => h H1 locs1 lc (e ▸ hP1) (e ▸ hD1) hS1 hR)
theorem ia_s_arraylength (hx : p.tables.exec = Jvm.exec) (hb : c.code = cc) (hK : va_K D cl tys s) (hT : ia_T Sh ca tys) (hZ : ia_Z Sh) (hdg : decode cc pc = .ok (.arraylength, 1)) (h : ia_pre C Z (ia_X p l e R s m args below meth c Q cells slots D cl A H0 Sh ad ca nL) (ia_f Sh (pc, .arraylength, 1, a, b, w, v, ts) ls st hh)) : ia_X p l e R s m args below meth c Q cells slots D cl A H0 Sh ad ca nL (pc, ls, st, hh) := by
  simp only [ia_f] at h
  split at h <;> first | exact h.elim | skip
  split at h <;> first | exact h.elim | skip
  · rename_i x st' _ ty n hc
    obtain ⟨t0, ht0⟩ := hT.1 _ _ _ hc
    intro H locs lc hP hD hS hR
    have hw := ia_w_at (ad := ad) (ca := ca) (h := hh) hc
    cases ty <;> exact va_alen hx hb hK hP _ t0 hw ht0 rfl hdg (h H locs lc hP hD hS hR)
  · rename_i x st' _ C0 n hc
    obtain ⟨t0, ht0⟩ := hT.2 _ _ _ hc
    intro H locs lc hP hD hS hR
    exact va_alen hx hb hK hP _ t0 (ia_w_at hc) ht0 rfl hdg (h H locs lc hP hD hS hR)
theorem ia_pick_lt : ∀ {l : List Nat} {j : Nat}, j < l.length → ∃ x, ia_pick l j = some x
  | [], _, h => by simp at h
  | x :: _, 0, _ => ⟨x, rfl⟩
  | _ :: l, j + 1, h => ia_pick_lt (l := l) (j := j) (by simp at h; omega)
theorem ia_s_aaload (hx : p.tables.exec = Jvm.exec) (hb : c.code = cc) (hK : va_K D cl tys s) (hT : ia_T Sh ca tys) (hl : ∀ x C l, ia_at? Sh x = some (.inr (.inr (C, l))) → l.length < 2 ^ 31) (hdg : decode cc pc = .ok (.aaload, 1)) (h : ia_pre C Z (ia_X p l e R s m args below meth c Q cells slots D cl A H0 Sh ad ca nL) (ia_f Sh (pc, .aaload, 1, a, b, w, v, ts) ls st hh)) : ia_X p l e R s m args below meth c Q cells slots D cl A H0 Sh ad ca nL (pc, ls, st, hh) := by
  simp only [ia_f] at h
  split at h <;> first | exact h.elim | skip
  split at h <;> first | exact h.elim | skip
  rename_i i x st' _ C0 l0 hc
  obtain ⟨t0, ht0⟩ := hT.2 _ _ _ hc
  intro H locs lc hP hD hS hR
  obtain ⟨j, ⟨hij, hj⟩, hX⟩ := h
  obtain ⟨y, hy⟩ := ia_pick_lt hj
  have hij2 : i.toNatClampNeg = j := by rw [hij]; exact nI_clamp (Nat.lt_trans hj (hl _ _ _ hc))
  refine va_aldq hx hb hK hP _ t0 (ia_w_at hc) ht0 (by rw [hij]; exact vp_in_nI hj (hl _ _ _ hc)) hdg ?_
  simp only [hy] at hX
  rw [hij2, hy]
  exact hX H locs lc hP hD hS hR
theorem ia_beq {x y : Nat} (h : Nat.beq x y = true) : x = y := Nat.eq_of_beq_eq_true h
/-- what the tables say of a class of the list -/
def ia_Cl (Ts : List Cond) (cl : List vw_C) (ty0 : Nat → Nat → FieldType) : Prop := ∀ (ci : Nat) (q : vw_C), cl[ci]? = some q → (∀ w ∈ u_ws q.1 q.2.1 q.2.2, w ∈ Ts) ∧ (∀ k, k < q.2.2 → parseFieldDescriptor (q.2.1 k).2.2.1 = some (ty0 ci k)) ∧ ∀ a, a < q.2.2 → ∀ b, b < q.2.2 → a ≠ b → (q.2.1 a).2.1 ≠ (q.2.1 b).2.1
theorem ia_s_getfield (hx : p.tables.exec = Jvm.exec) (hb : c.code = cc) {own : String} {idx : Nat} {Ts : List Cond} {ty0 : Nat → Nat → FieldType} {q : vw_C} (hts : ∀ w ∈ Ts, w.before args s = true) (hown : s.vm.findClass own = some m.cls) (hK : va_K D cl tys s) (hCl : ia_Cl Ts cl ty0) (hq : cl[a]? = some q) (hbN : b < q.2.2) (hlink : (Cond.fieldLink own idx (q.2.1 b).1 (q.2.1 b).2.1 (q.2.1 b).2.2.1).before args s = true) (hdg : decode cc pc = .ok (.getfield idx, 3)) (h : ia_pre C Z (ia_X p l e R s m args below meth c Q cells slots D cl A H0 Sh ad ca nL) (ia_f Sh (pc, .getfield idx, 3, a, b, w, v, ts) ls st hh)) : ia_X p l e R s m args below meth c Q cells slots D cl A H0 Sh ad ca nL (pc, ls, st, hh) := by
  simp only [ia_f] at h
  split at h <;> first | exact h.elim | skip
  rename_i x st'
  split at h <;> first | exact h.elim | skip
  rename_i ci ks hc
  cases hbe : Nat.beq ci a with
  | false => rw [hbe] at h; exact h.elim
  | true =>
    rw [hbe] at h
    have hci := ia_beq hbe
    subst hci
    simp only [cond_true] at h
    intro H locs lc hP hD hS hR
    have hw := ia_w_at (ad := ad) (ca := ca) (h := hh) hc
    split at h <;> first | exact h.elim | skip
    · rename_i y hk
      exact va_get hx hb hts (hCl _ _ hq).1 hown hK hP x hw hq b hbN hlink (fun _ h9 => h9) (v := .ref (ad y)) (by rw [ia_slots_get, hk]; simp only [Option.map_some, ia_slot]) hdg (h H locs lc hP hD hS hR)
    · rename_i hk
      exact va_get hx hb hts (hCl _ _ hq).1 hown hK hP x hw hq b hbN hlink (fun _ h9 => h9) (v := .int (hh.1 x b)) (by rw [ia_slots_get, hk, Nat.zero_add]; simp only [Option.map_some, ia_slot]) hdg (h H locs lc hP hD hS hR)
    · rename_i hk
      exact va_get hx hb hts (hCl _ _ hq).1 hown hK hP x hw hq b hbN hlink (fun _ h9 => h9) (v := .long (hh.2 x b)) (by rw [ia_slots_get, hk, Nat.zero_add]; simp only [Option.map_some, ia_slot]) hdg (h H locs lc hP hD hS hR)
theorem ia_s_putfield (hx : p.tables.exec = Jvm.exec) (hb : c.code = cc) {own : String} {idx : Nat} {Ts : List Cond} {ty0 : Nat → Nat → FieldType} {q : vw_C} (hts : ∀ w ∈ Ts, w.before args s = true) (hown : s.vm.findClass own = some m.cls) (hK : va_K D cl tys s) (hCl : ia_Cl Ts cl ty0) (hq : cl[a]? = some q) (hbN : b < q.2.2) (hlink : (Cond.fieldLink own idx (q.2.1 b).1 (q.2.1 b).2.1 (q.2.1 b).2.2.1).before args s = true) (hfin : (q.2.1 b).2.2.2 = false) (hkd : ∀ x ci ks, ia_at? Sh x = some (.inr (.inl (ci, ks))) → ci = a → (ia_kind ks b = some (.inr false) → ty0 a b = .int) ∧ (ia_kind ks b = some (.inr true) → ty0 a b = .long)) (hdg : decode cc pc = .ok (.putfield idx, 3)) (h : ia_pre C Z (ia_X p l e R s m args below meth c Q cells slots D cl A H0 Sh ad ca nL) (ia_f Sh (pc, .putfield idx, 3, a, b, w, v, ts) ls st hh)) : ia_X p l e R s m args below meth c Q cells slots D cl A H0 Sh ad ca nL (pc, ls, st, hh) := by
  simp only [ia_f] at h
  split at h <;> first | exact h.elim | skip
  · rename_i z x st'
    split at h <;> first | exact h.elim | skip
    rename_i ci ks hc
    cases hbe : Nat.beq ci a with
    | false => rw [hbe] at h; exact h.elim
    | true =>
      rw [hbe] at h
      have hci := ia_beq hbe
      subst hci
      simp only [cond_true] at h
      split at h <;> first | exact h.elim | skip
      rename_i hk
      intro H locs lc hP hD hS hR
      have hw := ia_w_at (ad := ad) (ca := ca) (h := hh) hc
      have hlen : b < (ia_slots ad hh x 0 ks).length := by
        have e : (ia_slots ad hh x 0 ks)[b]? = some (ia_slot ad hh x (0 + b) (.inr false)) := by rw [ia_slots_get, hk]; rfl
        exact (List.getElem?_eq_some_iff.mp e).1
      have e := ia_w_set (ad := ad) (ca := ca) (h := hh) (h' := (ia_uI hh.1 x b z, hh.2)) hc (fun y hy => ia_uI_ne hy) (fun y _ => rfl) (v := .inr (ci, (ia_slots ad hh x 0 ks).set b (.int z))) (by simp only [ia_cell, ia_slots_setI hk])
      exact va_put hx hb hts (hCl _ _ hq).1 (ty0 ci) (hCl _ _ hq).2.1 (hCl _ _ hq).2.2 hown hK hP hD hS x hw hq b hbN hlink (fun _ h9 => h9) hfin (ty := .int) (v := .int z) (by rw [(hCl _ _ hq).2.1 b hbN, (hkd _ _ _ hc rfl).1 hk]) rfl rfl hlen hdg (fun H1 locs1 hP1 hD1 hS1 => h H1 locs1 lc (e ▸ hP1) (e ▸ hD1) hS1 hR)
  · rename_i z x st'
    split at h <;> first | exact h.elim | skip
    rename_i ci ks hc
    cases hbe : Nat.beq ci a with
    | false => rw [hbe] at h; exact h.elim
    | true =>
      rw [hbe] at h
      have hci := ia_beq hbe
      subst hci
      simp only [cond_true] at h
      split at h <;> first | exact h.elim | skip
      rename_i hk
      intro H locs lc hP hD hS hR
      have hw := ia_w_at (ad := ad) (ca := ca) (h := hh) hc
      have hlen : b < (ia_slots ad hh x 0 ks).length := by
        have e : (ia_slots ad hh x 0 ks)[b]? = some (ia_slot ad hh x (0 + b) (.inr true)) := by rw [ia_slots_get, hk]; rfl
        exact (List.getElem?_eq_some_iff.mp e).1
      have e := ia_w_set (ad := ad) (ca := ca) (h := hh) (h' := (hh.1, ia_uL hh.2 x b z)) hc (fun y _ => rfl) (fun y hy => ia_uL_ne hy) (v := .inr (ci, (ia_slots ad hh x 0 ks).set b (.long z))) (by simp only [ia_cell, ia_slots_setL hk])
      exact va_put hx hb hts (hCl _ _ hq).1 (ty0 ci) (hCl _ _ hq).2.1 (hCl _ _ hq).2.2 hown hK hP hD hS x hw hq b hbN hlink (fun _ h9 => h9) hfin (ty := .long) (v := .long z) (by rw [(hCl _ _ hq).2.1 b hbN, (hkd _ _ _ hc rfl).2 hk]) rfl rfl hlen hdg (fun H1 locs1 hP1 hD1 hS1 => h H1 locs1 lc (e ▸ hP1) (e ▸ hD1) hS1 hR)
theorem ia_s_getfieldN (hx : p.tables.exec = Jvm.exec) (hb : c.code = cc) {own : String} {idx : Nat} {Ts : List Cond} {ty0 : Nat → Nat → FieldType} {q : vw_C} (hts : ∀ w ∈ Ts, w.before args s = true) (hown : s.vm.findClass own = some m.cls) (hK : va_K D cl tys s) (hCl : ia_Cl Ts cl ty0) (hq : cl[a]? = some q) (hbN : b < q.2.2) {host : String} (hlink : (Cond.fieldLinkNest own idx (q.2.1 b).1 (q.2.1 b).2.1 (q.2.1 b).2.2.1 host).before args s = true) (hdg : decode cc pc = .ok (.getfield idx, 3)) (h : ia_pre C Z (ia_X p l e R s m args below meth c Q cells slots D cl A H0 Sh ad ca nL) (ia_f Sh (pc, .getfield idx, 3, a, b, w, v, ts) ls st hh)) : ia_X p l e R s m args below meth c Q cells slots D cl A H0 Sh ad ca nL (pc, ls, st, hh) := by
  simp only [ia_f] at h
  split at h <;> first | exact h.elim | skip
  rename_i x st'
  split at h <;> first | exact h.elim | skip
  rename_i ci ks hc
  cases hbe : Nat.beq ci a with
  | false => rw [hbe] at h; exact h.elim
  | true =>
    rw [hbe] at h
    have hci := ia_beq hbe
    subst hci
    simp only [cond_true] at h
    intro H locs lc hP hD hS hR
    have hw := ia_w_at (ad := ad) (ca := ca) (h := hh) hc
    split at h <;> first | exact h.elim | skip
    · rename_i y hk
      exact va_getN hx hb hts (hCl _ _ hq).1 hown hK hP x hw hq b hbN hlink (fun _ h9 => h9) (v := .ref (ad y)) (by rw [ia_slots_get, hk]; simp only [Option.map_some, ia_slot]) hdg (h H locs lc hP hD hS hR)
    · rename_i hk
      exact va_getN hx hb hts (hCl _ _ hq).1 hown hK hP x hw hq b hbN hlink (fun _ h9 => h9) (v := .int (hh.1 x b)) (by rw [ia_slots_get, hk, Nat.zero_add]; simp only [Option.map_some, ia_slot]) hdg (h H locs lc hP hD hS hR)
    · rename_i hk
      exact va_getN hx hb hts (hCl _ _ hq).1 hown hK hP x hw hq b hbN hlink (fun _ h9 => h9) (v := .long (hh.2 x b)) (by rw [ia_slots_get, hk, Nat.zero_add]; simp only [Option.map_some, ia_slot]) hdg (h H locs lc hP hD hS hR)
theorem ia_s_putfieldN (hx : p.tables.exec = Jvm.exec) (hb : c.code = cc) {own : String} {idx : Nat} {Ts : List Cond} {ty0 : Nat → Nat → FieldType} {q : vw_C} (hts : ∀ w ∈ Ts, w.before args s = true) (hown : s.vm.findClass own = some m.cls) (hK : va_K D cl tys s) (hCl : ia_Cl Ts cl ty0) (hq : cl[a]? = some q) (hbN : b < q.2.2) {host : String} (hlink : (Cond.fieldLinkNest own idx (q.2.1 b).1 (q.2.1 b).2.1 (q.2.1 b).2.2.1 host).before args s = true) (hfin : (q.2.1 b).2.2.2 = false) (hkd : ∀ x ci ks, ia_at? Sh x = some (.inr (.inl (ci, ks))) → ci = a → (ia_kind ks b = some (.inr false) → ty0 a b = .int) ∧ (ia_kind ks b = some (.inr true) → ty0 a b = .long)) (hdg : decode cc pc = .ok (.putfield idx, 3)) (h : ia_pre C Z (ia_X p l e R s m args below meth c Q cells slots D cl A H0 Sh ad ca nL) (ia_f Sh (pc, .putfield idx, 3, a, b, w, v, ts) ls st hh)) : ia_X p l e R s m args below meth c Q cells slots D cl A H0 Sh ad ca nL (pc, ls, st, hh) := by
  simp only [ia_f] at h
  split at h <;> first | exact h.elim | skip
  · rename_i z x st'
    split at h <;> first | exact h.elim | skip
    rename_i ci ks hc
    cases hbe : Nat.beq ci a with
    | false => rw [hbe] at h; exact h.elim
    | true =>
      rw [hbe] at h
      have hci := ia_beq hbe
      subst hci
      simp only [cond_true] at h
      split at h <;> first | exact h.elim | skip
      rename_i hk
      intro H locs lc hP hD hS hR
      have hw := ia_w_at (ad := ad) (ca := ca) (h := hh) hc
      have hlen : b < (ia_slots ad hh x 0 ks).length := by
        have e : (ia_slots ad hh x 0 ks)[b]? = some (ia_slot ad hh x (0 + b) (.inr false)) := by rw [ia_slots_get, hk]; rfl
        exact (List.getElem?_eq_some_iff.mp e).1
      have e := ia_w_set (ad := ad) (ca := ca) (h := hh) (h' := (ia_uI hh.1 x b z, hh.2)) hc (fun y hy => ia_uI_ne hy) (fun y _ => rfl) (v := .inr (ci, (ia_slots ad hh x 0 ks).set b (.int z))) (by simp only [ia_cell, ia_slots_setI hk])
      exact va_putN hx hb hts (hCl _ _ hq).1 (ty0 ci) (hCl _ _ hq).2.1 (hCl _ _ hq).2.2 hown hK hP hD hS x hw hq b hbN hlink (fun _ h9 => h9) hfin (ty := .int) (v := .int z) (by rw [(hCl _ _ hq).2.1 b hbN, (hkd _ _ _ hc rfl).1 hk]) rfl rfl hlen hdg (fun H1 locs1 hP1 hD1 hS1 => h H1 locs1 lc (e ▸ hP1) (e ▸ hD1) hS1 hR)
  · rename_i z x st'
    split at h <;> first | exact h.elim | skip
    rename_i ci ks hc
    cases hbe : Nat.beq ci a with
    | false => rw [hbe] at h; exact h.elim
    | true =>
      rw [hbe] at h
      have hci := ia_beq hbe
      subst hci
      simp only [cond_true] at h
      split at h <;> first | exact h.elim | skip
      rename_i hk
      intro H locs lc hP hD hS hR
      have hw := ia_w_at (ad := ad) (ca := ca) (h := hh) hc
      have hlen : b < (ia_slots ad hh x 0 ks).length := by
        have e : (ia_slots ad hh x 0 ks)[b]? = some (ia_slot ad hh x (0 + b) (.inr true)) := by rw [ia_slots_get, hk]; rfl
        exact (List.getElem?_eq_some_iff.mp e).1
      have e := ia_w_set (ad := ad) (ca := ca) (h := hh) (h' := (hh.1, ia_uL hh.2 x b z)) hc (fun y _ => rfl) (fun y hy => ia_uL_ne hy) (v := .inr (ci, (ia_slots ad hh x 0 ks).set b (.long z))) (by simp only [ia_cell, ia_slots_setL hk])
      exact va_putN hx hb hts (hCl _ _ hq).1 (ty0 ci) (hCl _ _ hq).2.1 (hCl _ _ hq).2.2 hown hK hP hD hS x hw hq b hbN hlink (fun _ h9 => h9) hfin (ty := .long) (v := .long z) (by rw [(hCl _ _ hq).2.1 b hbN, (hkd _ _ _ hc rfl).2 hk]) rfl rfl hlen hdg (fun H1 locs1 hP1 hD1 hS1 => h H1 locs1 lc (e ▸ hP1) (e ▸ hD1) hS1 hR)
end IA2
