/-! THE PURE MACHINE IS THE JVM'S: the cells' picture, and a row for each instruction -/
def ia_v (ad : Nat → Nat) : Value → Value
  | .ref x => .ref (ad x)
  | v => v
def ia_slot (ad : Nat → Nat) (h : ia_H) (x j : Nat) : Nat ⊕ Bool → Value
  | .inl y => .ref (ad y)
  | .inr false => .int (h.1 x j)
  | .inr true => .long (h.2 x j)
def ia_slots (ad : Nat → Nat) (h : ia_H) (x : Nat) : Nat → List (Nat ⊕ Bool) → List Value
  | _, [] => []
  | j, k :: ks => ia_slot ad h x j k :: ia_slots ad h x (j + 1) ks
def ia_cell (ad : Nat → Nat) (ca : Nat → ClassId) (h : ia_H) (x : Nat) : ia_C → va_E
  | .inl (.long, n) => .inl (ca x, n, .inr (.inl (h.2 x)))
  | .inl (_, n) => .inl (ca x, n, .inl (h.1 x))
  | .inr (.inl (ci, ks)) => .inr (ci, ia_slots ad h x 0 ks)
  | .inr (.inr (_, l)) => .inl (ca x, l.length, .inr (.inr (.inr (.inr (fun j => (ia_pick l j).map ad)))))
def ia_w (ad : Nat → Nat) (ca : Nat → ClassId) (h : ia_H) : Nat → List ia_C → va_W
  | _, [] => []
  | x, c :: cs => (ad x, ia_cell ad ca h x c) :: ia_w ad ca h (x + 1) cs
theorem ia_w_get (ad : Nat → Nat) (ca : Nat → ClassId) (h : ia_H) : ∀ (Sh : List ia_C) (x0 x : Nat), (ia_w ad ca h x0 Sh)[x]? = (ia_at? Sh x).map (fun c => (ad (x0 + x), ia_cell ad ca h (x0 + x) c))
  | [], _, _ => by simp [ia_w, ia_at?]
  | c :: cs, x0, 0 => by simp [ia_w, ia_at?]
  | c :: cs, x0, x + 1 => by
    rw [ia_w, List.getElem?_cons_succ, ia_w_get ad ca h cs (x0 + 1) x]
    simp only [ia_at?]
    rw [show x0 + 1 + x = x0 + (x + 1) by omega]
theorem ia_w_at {ad : Nat → Nat} {ca : Nat → ClassId} {h : ia_H} {Sh : List ia_C} {x : Nat} {c : ia_C} (hc : ia_at? Sh x = some c) : (ia_w ad ca h 0 Sh)[x]? = some (ad x, ia_cell ad ca h x c) := by
  rw [ia_w_get, hc, Nat.zero_add]
  rfl
theorem ia_slots_congr {ad : Nat → Nat} {h h' : ia_H} {x : Nat} (h1 : h'.1 x = h.1 x) (h2 : h'.2 x = h.2 x) : ∀ (ks : List (Nat ⊕ Bool)) (j : Nat), ia_slots ad h' x j ks = ia_slots ad h x j ks
  | [], _ => rfl
  | k :: ks, j => by
    rw [ia_slots, ia_slots, ia_slots_congr h1 h2 ks (j + 1)]
    rcases k with y | b
    · rfl
    · cases b
      · simp only [ia_slot, h1]
      · simp only [ia_slot, h2]
theorem ia_cell_congr {ad : Nat → Nat} {ca : Nat → ClassId} {h h' : ia_H} {x : Nat} (h1 : h'.1 x = h.1 x) (h2 : h'.2 x = h.2 x) (c : ia_C) : ia_cell ad ca h' x c = ia_cell ad ca h x c := by
  rcases c with ⟨ty, n⟩ | ⟨ci, ks⟩ | ⟨C, l⟩
  · cases ty <;> simp only [ia_cell, h1, h2]
  · simp only [ia_cell, ia_slots_congr h1 h2]
  · rfl
theorem ia_w_set {ad : Nat → Nat} {ca : Nat → ClassId} {h h' : ia_H} {Sh : List ia_C} {x : Nat} {c : ia_C} (hc : ia_at? Sh x = some c) (h1 : ∀ y, y ≠ x → h'.1 y = h.1 y) (h2 : ∀ y, y ≠ x → h'.2 y = h.2 y) {v : va_E} (hv : v = ia_cell ad ca h' x c) : (ia_w ad ca h 0 Sh).set x (ad x, v) = ia_w ad ca h' 0 Sh := by
  subst hv
  apply List.ext_getElem?
  intro i
  rw [List.getElem?_set, ia_w_get, ia_w_get]
  by_cases hi : x = i
  · subst hi
    have hlt : x < (ia_w ad ca h 0 Sh).length := (List.getElem?_eq_some_iff.mp (ia_w_at (ad := ad) (ca := ca) (h := h) hc)).1
    rw [if_pos rfl, if_pos hlt, hc, Nat.zero_add]
    rfl
  · rw [if_neg hi, Nat.zero_add]
    cases ia_at? Sh i with
    | none => rfl
    | some c2 => simp only [Option.map_some, ia_cell_congr (h1 i (fun q => hi q.symm)) (h2 i (fun q => hi q.symm))]
theorem ia_D_congr {A : Nat → Prop} {ad : Nat → Nat} {ca : Nat → ClassId} {h h' : ia_H} {Sh : List ia_C} (hD : va_D A (ia_w ad ca h 0 Sh)) : va_D A (ia_w ad ca h' 0 Sh) := by
  have key : ∀ (k : Nat) (q : Nat × va_E), (ia_w ad ca h' 0 Sh)[k]? = some q → ∃ q' : Nat × va_E, (ia_w ad ca h 0 Sh)[k]? = some q' ∧ q'.1 = q.1 := by
    intro k q hq
    rw [ia_w_get] at hq
    rw [ia_w_get]
    cases hc : ia_at? Sh k with
    | none => rw [hc] at hq; cases hq
    | some c => rw [hc] at hq; cases hq; exact ⟨_, rfl, rfl⟩
  refine ⟨fun i j p q hi hj hpq => ?_, fun k q hk => ?_⟩
  · obtain ⟨p', a1, a2⟩ := key i p hi
    obtain ⟨q', b1, b2⟩ := key j q hj
    exact hD.1 i j p' q' a1 b1 (by rw [a2, b2]; exact hpq)
  · obtain ⟨q', b1, b2⟩ := key k q hk
    rw [← b2]
    exact hD.2 k q' b1
theorem ia_A_congr {ad : Nat → Nat} {ca : Nat → ClassId} {h h' : ia_H} {Sh : List ia_C} {sz q : Nat} (hA : va_A (ia_w ad ca h 0 Sh) sz q) : va_A (ia_w ad ca h' 0 Sh) sz q := by
  rcases hA with ⟨k, e, hk⟩ | hq
  · rw [ia_w_get] at hk
    cases hc : ia_at? Sh k with
    | none => rw [hc] at hk; cases hk
    | some c =>
      rw [hc] at hk
      cases hk
      exact Or.inl ⟨k, ia_cell ad ca h' (0 + k) c, by rw [ia_w_get, hc]; rfl⟩
  · exact Or.inr hq
theorem ia_slots_get (ad : Nat → Nat) (h : ia_H) (x : Nat) : ∀ (ks : List (Nat ⊕ Bool)) (j b : Nat), (ia_slots ad h x j ks)[b]? = (ia_kind ks b).map (ia_slot ad h x (j + b))
  | [], _, _ => by simp [ia_slots, ia_kind]
  | k :: ks, j, 0 => by simp [ia_slots, ia_kind]
  | k :: ks, j, b + 1 => by
    rw [ia_slots, List.getElem?_cons_succ, ia_slots_get ad h x ks (j + 1) b]
    simp only [ia_kind]
    rw [show j + 1 + b = j + (b + 1) by omega]
theorem ia_slots_setI {ad : Nat → Nat} {h : ia_H} {x b : Nat} {z : Int32} {ks : List (Nat ⊕ Bool)} (hb : ia_kind ks b = some (.inr false)) : (ia_slots ad h x 0 ks).set b (.int z) = ia_slots ad (ia_uI h.1 x b z, h.2) x 0 ks := by
  apply List.ext_getElem?
  intro i
  rw [List.getElem?_set, ia_slots_get, ia_slots_get]
  have hx : (ia_uI h.1 x b z) x = upd (h.1 x) b z := if_pos rfl
  by_cases hi : b = i
  · subst hi
    have hlt : b < (ia_slots ad h x 0 ks).length := by
      have e : (ia_slots ad h x 0 ks)[b]? = some (ia_slot ad h x (0 + b) (.inr false)) := by rw [ia_slots_get, hb]; rfl
      exact (List.getElem?_eq_some_iff.mp e).1
    rw [if_pos rfl, if_pos hlt, hb]
    simp [ia_slot, hx, upd]
  · rw [if_neg hi, Nat.zero_add]
    cases ia_kind ks i with
    | none => rfl
    | some k =>
      rcases k with y | bb
      · rfl
      · cases bb
        · simp only [Option.map_some, ia_slot, hx, upd, if_neg (fun q => hi q.symm : ¬ i = b)]
        · rfl
theorem ia_slots_setL {ad : Nat → Nat} {h : ia_H} {x b : Nat} {z : Int64} {ks : List (Nat ⊕ Bool)} (hb : ia_kind ks b = some (.inr true)) : (ia_slots ad h x 0 ks).set b (.long z) = ia_slots ad (h.1, ia_uL h.2 x b z) x 0 ks := by
  apply List.ext_getElem?
  intro i
  rw [List.getElem?_set, ia_slots_get, ia_slots_get]
  have hx : (ia_uL h.2 x b z) x = vp_updL (h.2 x) b z := if_pos rfl
  by_cases hi : b = i
  · subst hi
    have hlt : b < (ia_slots ad h x 0 ks).length := by
      have e : (ia_slots ad h x 0 ks)[b]? = some (ia_slot ad h x (0 + b) (.inr true)) := by rw [ia_slots_get, hb]; rfl
      exact (List.getElem?_eq_some_iff.mp e).1
    rw [if_pos rfl, if_pos hlt, hb]
    simp [ia_slot, hx, vp_updL]
  · rw [if_neg hi, Nat.zero_add]
    cases ia_kind ks i with
    | none => rfl
    | some k =>
      rcases k with y | bb
      · rfl
      · cases bb
        · rfl
        · simp only [Option.map_some, ia_slot, hx, vp_updL, if_neg (fun q => hi q.symm : ¬ i = b)]
theorem ia_uI_ne {f : Nat → Nat → Int32} {x i y : Nat} {z : Int32} (h : y ≠ x) : ia_uI f x i z y = f y := if_neg h
theorem ia_uL_ne {f : Nat → Nat → Int64} {x i y : Nat} {z : Int64} (h : y ≠ x) : ia_uL f x i z y = f y := if_neg h
/-! locals -/
theorem ia_get_none : ∀ (n i : Nat), ia_get (List.replicate n none) i = none
  | 0, _ => rfl
  | _ + 1, 0 => rfl
  | n + 1, i + 1 => ia_get_none n i
theorem ia_get_set : ∀ (ls : ia_L) (i j : Nat) (v : Option Value), ia_get (ia_set ls i v) j = if j = i ∧ i < ls.length then v else ia_get ls j
  | [], i, j, v => by simp [ia_set, ia_get]
  | w :: t, 0, 0, v => by simp [ia_set, ia_get]
  | w :: t, 0, j + 1, v => by simp [ia_set, ia_get]
  | w :: t, i + 1, 0, v => by simp [ia_set, ia_get]
  | w :: t, i + 1, j + 1, v => by
    rw [ia_set, ia_get, ia_get_set t i j v, ia_get]
    simp
theorem ia_set_len : ∀ (ls : ia_L) (i : Nat) (v : Option Value), (ia_set ls i v).length = ls.length
  | [], _, _ => rfl
  | _ :: _, 0, _ => rfl
  | _ :: t, i + 1, v => by simp [ia_set, ia_set_len t i v]
theorem ia_clr_len (ls : ia_L) (i : Nat) : (ia_clr ls i).length = ls.length := by
  cases i with
  | zero => rfl
  | succ k => simp only [ia_clr]; split <;> simp [ia_set_len]
def ia_R (ad : Nat → Nat) (nL : Nat) (lc : Array Slot) (ls : ia_L) : Prop := ls.length = nL ∧ lc.size = nL ∧ lv_wf lc ∧ ∀ (i : Nat) (v : Value), ia_get ls i = some v → lc[i]? = some (.val (ia_v ad v))
theorem ia_get_lt : ∀ {ls : ia_L} {i : Nat} {v : Value}, ia_get ls i = some v → i < ls.length
  | [], _, _, h => by cases h
  | _ :: _, 0, _, _ => by simp
  | _ :: t, i + 1, v, h => by
    have := ia_get_lt (ls := t) (i := i) (v := v) h
    simp; omega
theorem ia_cat (ad : Nat → Nat) (v : Value) : (ia_v ad v).category = v.category := by cases v <;> rfl
/-- the listed values, as the kit's rows want them -/
def ia_al (ad : Nat → Nat) (ls : ia_L) : List (Nat × Value) := (List.range ls.length).filterMap (fun i => (ia_get ls i).map (fun v => (i, ia_v ad v)))
theorem ia_al_mem {ad : Nat → Nat} {ls : ia_L} {q : Nat × Value} : q ∈ ia_al ad ls ↔ ∃ v, ia_get ls q.1 = some v ∧ q.2 = ia_v ad v := by
  unfold ia_al
  rw [List.mem_filterMap]
  constructor
  · rintro ⟨i, -, hi⟩
    cases hg : ia_get ls i with
    | none => rw [hg] at hi; cases hi
    | some v => rw [hg] at hi; cases hi; exact ⟨v, hg, rfl⟩
  · rintro ⟨v, hg, hv⟩
    refine ⟨q.1, List.mem_range.mpr (ia_get_lt hg), ?_⟩
    rw [hg]
    show some (q.1, ia_v ad v) = some q
    rw [← hv]
theorem ia_R_has {ad : Nat → Nat} {nL : Nat} {lc : Array Slot} {ls : ia_L} (h : ia_R ad nL lc ls) : lv_has lc nL (ia_al ad ls) := by
  refine ⟨h.2.1, h.2.2.1, fun q hq => ?_⟩
  obtain ⟨v, hg, hv⟩ := ia_al_mem.mp hq
  rw [hv]
  exact h.2.2.2 q.1 v hg
theorem ia_R_of {ad : Nat → Nat} {nL : Nat} {lc : Array Slot} {ls : ia_L} {lv : List (Nat × Value)} (hl : ls.length = nL) (h : lv_has lc nL lv) (hs : ∀ q ∈ ia_al ad ls, q ∈ lv) : ia_R ad nL lc ls := by
  refine ⟨hl, h.1, h.2.1, fun i v hg => ?_⟩
  exact h.2.2 (i, ia_v ad v) (hs _ (ia_al_mem.mpr ⟨v, hg, rfl⟩))
theorem ia_clr_get {ls : ia_L} {i j : Nat} {v : Value} (h : ia_get (ia_clr ls i) j = some v) : ia_get ls j = some v ∧ ¬ (j + 1 = i ∧ v.category = 2) := by
  cases i with
  | zero => exact ⟨h, fun q => by omega⟩
  | succ k =>
    simp only [ia_clr] at h
    split at h
    · rename_i x hx
      rw [ia_get_set] at h
      by_cases hj : j = k ∧ k < ls.length
      · rw [if_pos hj] at h; cases h
      · rw [if_neg hj] at h
        refine ⟨h, fun q => hj ⟨by omega, ia_get_lt hx⟩⟩
    · rename_i x hx
      rw [ia_get_set] at h
      by_cases hj : j = k ∧ k < ls.length
      · rw [if_pos hj] at h; cases h
      · rw [if_neg hj] at h
        refine ⟨h, fun q => hj ⟨by omega, ia_get_lt hx⟩⟩
    · rename_i hn1 hn2
      refine ⟨h, fun q => ?_⟩
      have hjk : j = k := by omega
      subst hjk
      cases v with
      | long x => exact hn1 x h
      | double x => exact hn2 x h
      | _ => simp [Value.category] at q
theorem ia_R_st1 {ad : Nat → Nat} {nL : Nat} {lc lc' : Array Slot} {ls : ia_L} {i : Nat} {v : Value} (h : ia_R ad nL lc ls) (h' : lv_has lc' nL ((i, ia_v ad v) :: (ia_al ad ls).filter (fun q => !(q.1 == i) && !(q.1 + 1 == i && q.2.category == 2)))) : ia_R ad nL lc' (ia_st1 ls i v) := by
  refine ia_R_of (by simp [ia_st1, ia_set_len, ia_clr_len, h.1]) h' (fun q hq => ?_)
  obtain ⟨u, hg, hu⟩ := ia_al_mem.mp hq
  simp only [ia_st1] at hg
  rw [ia_get_set] at hg
  by_cases hj : q.1 = i ∧ i < (ia_clr ls i).length
  · rw [if_pos hj] at hg
    cases hg
    exact List.mem_cons.mpr (Or.inl (Prod.ext hj.1 hu))
  · rw [if_neg hj] at hg
    obtain ⟨g1, g2⟩ := ia_clr_get hg
    have hne : q.1 ≠ i := fun q0 => hj ⟨q0, by rw [ia_clr_len, ← q0]; exact ia_get_lt g1⟩
    refine List.mem_cons.mpr (Or.inr (List.mem_filter.mpr ⟨ia_al_mem.mpr ⟨u, g1, hu⟩, ?_⟩))
    have hc : q.2.category = u.category := by rw [hu, ia_cat]
    simp only [Bool.and_eq_true, Bool.not_eq_true', beq_eq_false_iff_ne, Bool.and_eq_false_iff]
    refine ⟨hne, ?_⟩
    by_cases h1 : q.1 + 1 = i
    · exact Or.inr (fun h2 => g2 ⟨h1, by rw [← hc]; exact h2⟩)
    · exact Or.inl h1
theorem ia_R_st2 {ad : Nat → Nat} {nL : Nat} {lc lc' : Array Slot} {ls : ia_L} {i : Nat} {v : Value} (h : ia_R ad nL lc ls) (hi : i + 1 < nL) (h' : lv_has lc' nL ((i, ia_v ad v) :: (ia_al ad ls).filter (fun q => !(q.1 == i) && (!(q.1 == i + 1) && !(q.1 + 1 == i && q.2.category == 2))))) : ia_R ad nL lc' (ia_st2 ls i v) := by
  refine ia_R_of (by simp [ia_st2, ia_set_len, ia_clr_len, h.1]) h' (fun q hq => ?_)
  obtain ⟨u, hg, hu⟩ := ia_al_mem.mp hq
  simp only [ia_st2] at hg
  rw [ia_get_set] at hg
  by_cases hj2 : q.1 = i + 1 ∧ i + 1 < (ia_set (ia_clr ls i) i (some v)).length
  · rw [if_pos hj2] at hg; cases hg
  rw [if_neg hj2, ia_get_set] at hg
  have hne2 : q.1 ≠ i + 1 := fun q0 => hj2 ⟨q0, by rw [ia_set_len, ia_clr_len, h.1]; exact hi⟩
  by_cases hj : q.1 = i ∧ i < (ia_clr ls i).length
  · rw [if_pos hj] at hg
    cases hg
    exact List.mem_cons.mpr (Or.inl (Prod.ext hj.1 hu))
  · rw [if_neg hj] at hg
    obtain ⟨g1, g2⟩ := ia_clr_get hg
    have hne : q.1 ≠ i := fun q0 => hj ⟨q0, by rw [ia_clr_len, ← q0]; exact ia_get_lt g1⟩
    refine List.mem_cons.mpr (Or.inr (List.mem_filter.mpr ⟨ia_al_mem.mpr ⟨u, g1, hu⟩, ?_⟩))
    have hc : q.2.category = u.category := by rw [hu, ia_cat]
    simp only [Bool.and_eq_true, Bool.not_eq_true', beq_eq_false_iff_ne, Bool.and_eq_false_iff]
    refine ⟨hne, hne2, ?_⟩
    by_cases h1 : q.1 + 1 = i
    · exact Or.inr (fun h2 => g2 ⟨h1, by rw [← hc]; exact h2⟩)
    · exact Or.inl h1
section IA
variable {p : Program} {l : Launch} {e : Env} {R : Room} {s : State} {m : MethodId} {args : Array Value} {below : List Frame} {meth : Method} {c : Code} {Q : State → Prop} {cells slots : Nat}
variable {cc : ByteArray} {D : va_G} {cl : List vw_C} {A : Nat → Prop} {tys : List (ClassId × FieldType)} {H0 : Heap} {Sh : List ia_C} {ad : Nat → Nat} {ca : Nat → ClassId} {nL : Nat}
variable {C : Nat → List Value → ia_H → Option Value → ia_H → Prop} {Z : Option Value → ia_H → Prop} {pc a b w : Nat} {v : Value} {ts : List (Int × Nat)} {ls : ia_L} {st : List Value} {hh : ia_H}
/-- the JVM's frame stands as the pure one: wherever that is so, it comes to Q -/
def ia_X (p : Program) (l : Launch) (e : Env) (R : Room) (s : State) (m : MethodId) (args : Array Value) (below : List Frame) (meth : Method) (c : Code) (Q : State → Prop) (cells slots : Nat) (D : va_G) (cl : List vw_C) (A : Nat → Prop) (H0 : Heap) (Sh : List ia_C) (ad : Nat → Nat) (ca : Nat → ClassId) (nL : Nat) (t : ia_S) : Prop :=
  ∀ (H : Heap) (locs : List Loc) (lc : Array Slot), va_P D cl (ia_w ad ca t.2.2.2 0 Sh) H → va_D A (ia_w ad ca t.2.2.2 0 Sh) → va_S A H0 H locs → ia_R ad nL lc t.2.1 → W p l e R s m args below meth c H locs cells slots Q (F0 m t.1 lc (t.2.2.1.map (ia_v ad)))
theorem ia_s_aload_n (hx : p.tables.exec = Jvm.exec) (hb : c.code = cc) {k : Fin 4} (hdg : decode cc pc = .ok (.aload_n k, 1)) (h : ia_pre C Z (ia_X p l e R s m args below meth c Q cells slots D cl A H0 Sh ad ca nL) (ia_f Sh (pc, .aload_n k, 1, a, b, w, v, ts) ls st hh)) : ia_X p l e R s m args below meth c Q cells slots D cl A H0 Sh ad ca nL (pc, ls, st, hh) := by
  simp only [ia_f] at h
  split at h
  · rename_i x hg
    intro H locs lc hP hD hS hR
    exact lv_aload_n hx hb hdg rfl (hR.2.2.2 _ _ hg) (h H locs lc hP hD hS hR)
  · exact h.elim
theorem ia_s_aload (hx : p.tables.exec = Jvm.exec) (hb : c.code = cc) {k : Nat} (hdg : decode cc pc = .ok (.aload k, 2)) (h : ia_pre C Z (ia_X p l e R s m args below meth c Q cells slots D cl A H0 Sh ad ca nL) (ia_f Sh (pc, .aload k, 2, a, b, w, v, ts) ls st hh)) : ia_X p l e R s m args below meth c Q cells slots D cl A H0 Sh ad ca nL (pc, ls, st, hh) := by
  simp only [ia_f] at h
  split at h
  · rename_i x hg
    intro H locs lc hP hD hS hR
    exact lv_aload hx hb hdg (hR.2.2.2 _ _ hg) (h H locs lc hP hD hS hR)
  · exact h.elim
theorem ia_s_iload_n (hx : p.tables.exec = Jvm.exec) (hb : c.code = cc) {k : Fin 4} (hdg : decode cc pc = .ok (.iload_n k, 1)) (h : ia_pre C Z (ia_X p l e R s m args below meth c Q cells slots D cl A H0 Sh ad ca nL) (ia_f Sh (pc, .iload_n k, 1, a, b, w, v, ts) ls st hh)) : ia_X p l e R s m args below meth c Q cells slots D cl A H0 Sh ad ca nL (pc, ls, st, hh) := by
  simp only [ia_f] at h
  split at h
  · rename_i x hg
    intro H locs lc hP hD hS hR
    exact lv_iload_n hx hb hdg rfl (hR.2.2.2 _ _ hg) (h H locs lc hP hD hS hR)
  · exact h.elim
theorem ia_s_iload (hx : p.tables.exec = Jvm.exec) (hb : c.code = cc) {k : Nat} (hdg : decode cc pc = .ok (.iload k, 2)) (h : ia_pre C Z (ia_X p l e R s m args below meth c Q cells slots D cl A H0 Sh ad ca nL) (ia_f Sh (pc, .iload k, 2, a, b, w, v, ts) ls st hh)) : ia_X p l e R s m args below meth c Q cells slots D cl A H0 Sh ad ca nL (pc, ls, st, hh) := by
  simp only [ia_f] at h
  split at h
  · rename_i x hg
    intro H locs lc hP hD hS hR
    exact lv_iload hx hb hdg (hR.2.2.2 _ _ hg) (h H locs lc hP hD hS hR)
  · exact h.elim
theorem ia_s_lload_n (hx : p.tables.exec = Jvm.exec) (hb : c.code = cc) {k : Fin 4} (hdg : decode cc pc = .ok (.lload_n k, 1)) (h : ia_pre C Z (ia_X p l e R s m args below meth c Q cells slots D cl A H0 Sh ad ca nL) (ia_f Sh (pc, .lload_n k, 1, a, b, w, v, ts) ls st hh)) : ia_X p l e R s m args below meth c Q cells slots D cl A H0 Sh ad ca nL (pc, ls, st, hh) := by
  simp only [ia_f] at h
  split at h
  · rename_i x hg
    intro H locs lc hP hD hS hR
    exact lv_lload_n hx hb hdg rfl (hR.2.2.2 _ _ hg) (h H locs lc hP hD hS hR)
  · exact h.elim
theorem ia_s_lload (hx : p.tables.exec = Jvm.exec) (hb : c.code = cc) {k : Nat} (hdg : decode cc pc = .ok (.lload k, 2)) (h : ia_pre C Z (ia_X p l e R s m args below meth c Q cells slots D cl A H0 Sh ad ca nL) (ia_f Sh (pc, .lload k, 2, a, b, w, v, ts) ls st hh)) : ia_X p l e R s m args below meth c Q cells slots D cl A H0 Sh ad ca nL (pc, ls, st, hh) := by
  simp only [ia_f] at h
  split at h
  · rename_i x hg
    intro H locs lc hP hD hS hR
    exact lv_lload hx hb hdg (hR.2.2.2 _ _ hg) (h H locs lc hP hD hS hR)
  · exact h.elim
theorem ia_s_dload_n (hx : p.tables.exec = Jvm.exec) (hb : c.code = cc) {k : Fin 4} (hdg : decode cc pc = .ok (.dload_n k, 1)) (h : ia_pre C Z (ia_X p l e R s m args below meth c Q cells slots D cl A H0 Sh ad ca nL) (ia_f Sh (pc, .dload_n k, 1, a, b, w, v, ts) ls st hh)) : ia_X p l e R s m args below meth c Q cells slots D cl A H0 Sh ad ca nL (pc, ls, st, hh) := by
  simp only [ia_f] at h
  split at h
  · rename_i x hg
    intro H locs lc hP hD hS hR
    exact lv_dload_n hx hb hdg rfl (hR.2.2.2 _ _ hg) (h H locs lc hP hD hS hR)
  · exact h.elim
theorem ia_s_astore_n (hx : p.tables.exec = Jvm.exec) (hb : c.code = cc) {k : Fin 4} (hk : k.val < nL) (hdg : decode cc pc = .ok (.astore_n k, 1)) (h : ia_pre C Z (ia_X p l e R s m args below meth c Q cells slots D cl A H0 Sh ad ca nL) (ia_f Sh (pc, .astore_n k, 1, a, b, w, v, ts) ls st hh)) : ia_X p l e R s m args below meth c Q cells slots D cl A H0 Sh ad ca nL (pc, ls, st, hh) := by
  simp only [ia_f, ia_st1K_eq, ia_st2K_eq] at h
  split at h <;> first | exact h.elim | skip
  all_goals (
    intro H locs lc hP hD hS hR
    exact lv_astore_n hx hb hdg rfl (ia_R_has hR) hk rfl (fun lc' hl => h H locs lc' hP hD hS (ia_R_st1 hR hl)))
theorem ia_s_astore (hx : p.tables.exec = Jvm.exec) (hb : c.code = cc) {k : Nat} (hk : k < nL) (hdg : decode cc pc = .ok (.astore k, 2)) (h : ia_pre C Z (ia_X p l e R s m args below meth c Q cells slots D cl A H0 Sh ad ca nL) (ia_f Sh (pc, .astore k, 2, a, b, w, v, ts) ls st hh)) : ia_X p l e R s m args below meth c Q cells slots D cl A H0 Sh ad ca nL (pc, ls, st, hh) := by
  simp only [ia_f, ia_st1K_eq, ia_st2K_eq] at h
  split at h <;> first | exact h.elim | skip
  all_goals (
    intro H locs lc hP hD hS hR
    exact lv_astore hx hb hdg (ia_R_has hR) hk rfl (fun lc' hl => h H locs lc' hP hD hS (ia_R_st1 hR hl)))
theorem ia_s_istore_n (hx : p.tables.exec = Jvm.exec) (hb : c.code = cc) {k : Fin 4} (hk : k.val < nL) (hdg : decode cc pc = .ok (.istore_n k, 1)) (h : ia_pre C Z (ia_X p l e R s m args below meth c Q cells slots D cl A H0 Sh ad ca nL) (ia_f Sh (pc, .istore_n k, 1, a, b, w, v, ts) ls st hh)) : ia_X p l e R s m args below meth c Q cells slots D cl A H0 Sh ad ca nL (pc, ls, st, hh) := by
  simp only [ia_f, ia_st1K_eq, ia_st2K_eq] at h
  split at h <;> first | exact h.elim | skip
  all_goals (
    intro H locs lc hP hD hS hR
    exact lv_istore_n hx hb hdg rfl (ia_R_has hR) hk rfl (fun lc' hl => h H locs lc' hP hD hS (ia_R_st1 hR hl)))
theorem ia_s_istore (hx : p.tables.exec = Jvm.exec) (hb : c.code = cc) {k : Nat} (hk : k < nL) (hdg : decode cc pc = .ok (.istore k, 2)) (h : ia_pre C Z (ia_X p l e R s m args below meth c Q cells slots D cl A H0 Sh ad ca nL) (ia_f Sh (pc, .istore k, 2, a, b, w, v, ts) ls st hh)) : ia_X p l e R s m args below meth c Q cells slots D cl A H0 Sh ad ca nL (pc, ls, st, hh) := by
  simp only [ia_f, ia_st1K_eq, ia_st2K_eq] at h
  split at h <;> first | exact h.elim | skip
  all_goals (
    intro H locs lc hP hD hS hR
    exact lv_istore hx hb hdg (ia_R_has hR) hk rfl (fun lc' hl => h H locs lc' hP hD hS (ia_R_st1 hR hl)))
theorem ia_s_lstore_n (hx : p.tables.exec = Jvm.exec) (hb : c.code = cc) {k : Fin 4} (hk : k.val + 1 < nL) (hdg : decode cc pc = .ok (.lstore_n k, 1)) (h : ia_pre C Z (ia_X p l e R s m args below meth c Q cells slots D cl A H0 Sh ad ca nL) (ia_f Sh (pc, .lstore_n k, 1, a, b, w, v, ts) ls st hh)) : ia_X p l e R s m args below meth c Q cells slots D cl A H0 Sh ad ca nL (pc, ls, st, hh) := by
  simp only [ia_f, ia_st1K_eq, ia_st2K_eq] at h
  split at h <;> first | exact h.elim | skip
  all_goals (
    intro H locs lc hP hD hS hR
    exact lv_lstore_n hx hb hdg rfl (ia_R_has hR) hk rfl (fun lc' hl => h H locs lc' hP hD hS (ia_R_st2 hR hk hl)))
theorem ia_s_lstore (hx : p.tables.exec = Jvm.exec) (hb : c.code = cc) {k : Nat} (hk : k + 1 < nL) (hdg : decode cc pc = .ok (.lstore k, 2)) (h : ia_pre C Z (ia_X p l e R s m args below meth c Q cells slots D cl A H0 Sh ad ca nL) (ia_f Sh (pc, .lstore k, 2, a, b, w, v, ts) ls st hh)) : ia_X p l e R s m args below meth c Q cells slots D cl A H0 Sh ad ca nL (pc, ls, st, hh) := by
  simp only [ia_f, ia_st1K_eq, ia_st2K_eq] at h
  split at h <;> first | exact h.elim | skip
  all_goals (
    intro H locs lc hP hD hS hR
    exact lv_lstore hx hb hdg (ia_R_has hR) hk rfl (fun lc' hl => h H locs lc' hP hD hS (ia_R_st2 hR hk hl)))
theorem ia_s_dstore_n (hx : p.tables.exec = Jvm.exec) (hb : c.code = cc) {k : Fin 4} (hk : k.val + 1 < nL) (hdg : decode cc pc = .ok (.dstore_n k, 1)) (h : ia_pre C Z (ia_X p l e R s m args below meth c Q cells slots D cl A H0 Sh ad ca nL) (ia_f Sh (pc, .dstore_n k, 1, a, b, w, v, ts) ls st hh)) : ia_X p l e R s m args below meth c Q cells slots D cl A H0 Sh ad ca nL (pc, ls, st, hh) := by
  simp only [ia_f, ia_st1K_eq, ia_st2K_eq] at h
  split at h <;> first | exact h.elim | skip
  all_goals (
    intro H locs lc hP hD hS hR
    exact lv_dstore_n hx hb hdg rfl (ia_R_has hR) hk rfl (fun lc' hl => h H locs lc' hP hD hS (ia_R_st2 hR hk hl)))
theorem ia_s_iinc (hx : p.tables.exec = Jvm.exec) (hb : c.code = cc) {k : Nat} {n : Int} (hk : k < nL) (hdg : decode cc pc = .ok (.iinc k n, 3)) (h : ia_pre C Z (ia_X p l e R s m args below meth c Q cells slots D cl A H0 Sh ad ca nL) (ia_f Sh (pc, .iinc k n, 3, a, b, w, .int (Int32.ofInt n), ts) ls st hh)) : ia_X p l e R s m args below meth c Q cells slots D cl A H0 Sh ad ca nL (pc, ls, st, hh) := by
  simp only [ia_f, ia_st1K_eq] at h
  split at h
  · rename_i x hg
    intro H locs lc hP hD hS hR
    obtain ⟨j, hj⟩ := List.mem_iff_getElem?.mp (ia_al_mem (ad := ad) (q := (k, .int x)).mpr ⟨.int x, hg, rfl⟩)
    exact lv_iinc hx hb hdg (ia_R_has hR) hj rfl hk rfl (fun lc' hl => h H locs lc' hP hD hS (ia_R_st1 (v := .int (x + Int32.ofInt n)) hR hl))
  · exact h.elim
theorem ia_s_iconst (hx : p.tables.exec = Jvm.exec) (hb : c.code = cc) {n : Int} (hdg : decode cc pc = .ok (.iconst n, 1)) (h : ia_pre C Z (ia_X p l e R s m args below meth c Q cells slots D cl A H0 Sh ad ca nL) (ia_f Sh (pc, .iconst n, 1, a, b, w, .int (Int32.ofInt n), ts) ls st hh)) : ia_X p l e R s m args below meth c Q cells slots D cl A H0 Sh ad ca nL (pc, ls, st, hh) := by
  intro H locs lc hP hD hS hR
  exact lv_iconst hx hb hdg rfl (h H locs lc hP hD hS hR)
theorem ia_s_bipush (hx : p.tables.exec = Jvm.exec) (hb : c.code = cc) {n : Int} (hdg : decode cc pc = .ok (.bipush n, 2)) (h : ia_pre C Z (ia_X p l e R s m args below meth c Q cells slots D cl A H0 Sh ad ca nL) (ia_f Sh (pc, .bipush n, 2, a, b, w, .int (Int8.ofInt n).toInt32, ts) ls st hh)) : ia_X p l e R s m args below meth c Q cells slots D cl A H0 Sh ad ca nL (pc, ls, st, hh) := by
  intro H locs lc hP hD hS hR
  exact lv_bipush hx hb hdg rfl (h H locs lc hP hD hS hR)
theorem ia_s_sipush (hx : p.tables.exec = Jvm.exec) (hb : c.code = cc) {n : Int} (hdg : decode cc pc = .ok (.sipush n, 3)) (h : ia_pre C Z (ia_X p l e R s m args below meth c Q cells slots D cl A H0 Sh ad ca nL) (ia_f Sh (pc, .sipush n, 3, a, b, w, .int (Int16.ofInt n).toInt32, ts) ls st hh)) : ia_X p l e R s m args below meth c Q cells slots D cl A H0 Sh ad ca nL (pc, ls, st, hh) := by
  intro H locs lc hP hD hS hR
  exact lv_sipush hx hb hdg rfl (h H locs lc hP hD hS hR)
theorem ia_s_lconst (hx : p.tables.exec = Jvm.exec) (hb : c.code = cc) {n : Fin 2} (hdg : decode cc pc = .ok (.lconst n, 1)) (h : ia_pre C Z (ia_X p l e R s m args below meth c Q cells slots D cl A H0 Sh ad ca nL) (ia_f Sh (pc, .lconst n, 1, a, b, w, .long (Int64.ofNat n.val), ts) ls st hh)) : ia_X p l e R s m args below meth c Q cells slots D cl A H0 Sh ad ca nL (pc, ls, st, hh) := by
  intro H locs lc hP hD hS hR
  exact lv_lconst hx hb hdg rfl (h H locs lc hP hD hS hR)
theorem ia_s_dconst (hx : p.tables.exec = Jvm.exec) (hb : c.code = cc) (hdg : decode cc pc = .ok (.dconst 0, 1)) (h : ia_pre C Z (ia_X p l e R s m args below meth c Q cells slots D cl A H0 Sh ad ca nL) (ia_f Sh (pc, .dconst 0, 1, a, b, w, v, ts) ls st hh)) : ia_X p l e R s m args below meth c Q cells slots D cl A H0 Sh ad ca nL (pc, ls, st, hh) := by
  intro H locs lc hP hD hS hR
  exact lv_dconst0 hx hb hdg (h H locs lc hP hD hS hR)
theorem ia_s_ldc2l (hx : p.tables.exec = Jvm.exec) (hb : c.code = cc) {own : String} {i : Nat} {x : Int64} (hown : s.vm.findClass own = some m.cls) (hw : (Jvm.Cond.constantLong own i x).before args s = true) (hdg : decode cc pc = .ok (.ldc2_w i, 3)) (h : ia_pre C Z (ia_X p l e R s m args below meth c Q cells slots D cl A H0 Sh ad ca nL) (ia_f Sh (pc, .ldc2_w i, 3, a, b, w, .long x, ts) ls st hh)) : ia_X p l e R s m args below meth c Q cells slots D cl A H0 Sh ad ca nL (pc, ls, st, hh) := by
  intro H locs lc hP hD hS hR
  exact lv_ldc2 hx hb hown hw hdg (h H locs lc hP hD hS hR)
theorem ia_s_ldc2d (hx : p.tables.exec = Jvm.exec) (hb : c.code = cc) {own : String} {i : Nat} {x : UInt64} (hown : s.vm.findClass own = some m.cls) (hw : (Jvm.Cond.constantDouble own i x).before args s = true) (hdg : decode cc pc = .ok (.ldc2_w i, 3)) (h : ia_pre C Z (ia_X p l e R s m args below meth c Q cells slots D cl A H0 Sh ad ca nL) (ia_f Sh (pc, .ldc2_w i, 3, a, b, w, .double x, ts) ls st hh)) : ia_X p l e R s m args below meth c Q cells slots D cl A H0 Sh ad ca nL (pc, ls, st, hh) := by
  intro H locs lc hP hD hS hR
  exact lv_ldc2d hx hb hown hw hdg (h H locs lc hP hD hS hR)
theorem ia_s_iadd (hx : p.tables.exec = Jvm.exec) (hb : c.code = cc) (hdg : decode cc pc = .ok (.iadd, 1)) (h : ia_pre C Z (ia_X p l e R s m args below meth c Q cells slots D cl A H0 Sh ad ca nL) (ia_f Sh (pc, .iadd, 1, a, b, w, v, ts) ls st hh)) : ia_X p l e R s m args below meth c Q cells slots D cl A H0 Sh ad ca nL (pc, ls, st, hh) := by
  simp only [ia_f] at h
  split at h <;> first | exact h.elim | skip
  all_goals (
    intro H locs lc hP hD hS hR
    exact lv_iadd hx hb hdg (h H locs lc hP hD hS hR))
theorem ia_s_isub (hx : p.tables.exec = Jvm.exec) (hb : c.code = cc) (hdg : decode cc pc = .ok (.isub, 1)) (h : ia_pre C Z (ia_X p l e R s m args below meth c Q cells slots D cl A H0 Sh ad ca nL) (ia_f Sh (pc, .isub, 1, a, b, w, v, ts) ls st hh)) : ia_X p l e R s m args below meth c Q cells slots D cl A H0 Sh ad ca nL (pc, ls, st, hh) := by
  simp only [ia_f] at h
  split at h <;> first | exact h.elim | skip
  all_goals (
    intro H locs lc hP hD hS hR
    exact lv_isub hx hb hdg (h H locs lc hP hD hS hR))
theorem ia_s_imul (hx : p.tables.exec = Jvm.exec) (hb : c.code = cc) (hdg : decode cc pc = .ok (.imul, 1)) (h : ia_pre C Z (ia_X p l e R s m args below meth c Q cells slots D cl A H0 Sh ad ca nL) (ia_f Sh (pc, .imul, 1, a, b, w, v, ts) ls st hh)) : ia_X p l e R s m args below meth c Q cells slots D cl A H0 Sh ad ca nL (pc, ls, st, hh) := by
  simp only [ia_f] at h
  split at h <;> first | exact h.elim | skip
  all_goals (
    intro H locs lc hP hD hS hR
    exact lv_imul hx hb hdg (h H locs lc hP hD hS hR))
theorem ia_s_iand (hx : p.tables.exec = Jvm.exec) (hb : c.code = cc) (hdg : decode cc pc = .ok (.iand, 1)) (h : ia_pre C Z (ia_X p l e R s m args below meth c Q cells slots D cl A H0 Sh ad ca nL) (ia_f Sh (pc, .iand, 1, a, b, w, v, ts) ls st hh)) : ia_X p l e R s m args below meth c Q cells slots D cl A H0 Sh ad ca nL (pc, ls, st, hh) := by
  simp only [ia_f] at h
  split at h <;> first | exact h.elim | skip
  all_goals (
    intro H locs lc hP hD hS hR
    exact lv_iand hx hb hdg (h H locs lc hP hD hS hR))
theorem ia_s_ixor (hx : p.tables.exec = Jvm.exec) (hb : c.code = cc) (hdg : decode cc pc = .ok (.ixor, 1)) (h : ia_pre C Z (ia_X p l e R s m args below meth c Q cells slots D cl A H0 Sh ad ca nL) (ia_f Sh (pc, .ixor, 1, a, b, w, v, ts) ls st hh)) : ia_X p l e R s m args below meth c Q cells slots D cl A H0 Sh ad ca nL (pc, ls, st, hh) := by
  simp only [ia_f] at h
  split at h <;> first | exact h.elim | skip
  all_goals (
    intro H locs lc hP hD hS hR
    exact lv_ixor hx hb hdg (h H locs lc hP hD hS hR))
theorem ia_s_ishr (hx : p.tables.exec = Jvm.exec) (hb : c.code = cc) (hdg : decode cc pc = .ok (.ishr, 1)) (h : ia_pre C Z (ia_X p l e R s m args below meth c Q cells slots D cl A H0 Sh ad ca nL) (ia_f Sh (pc, .ishr, 1, a, b, w, v, ts) ls st hh)) : ia_X p l e R s m args below meth c Q cells slots D cl A H0 Sh ad ca nL (pc, ls, st, hh) := by
  simp only [ia_f] at h
  split at h <;> first | exact h.elim | skip
  all_goals (
    intro H locs lc hP hD hS hR
    exact lv_ishr hx hb hdg (h H locs lc hP hD hS hR))
theorem ia_s_ladd (hx : p.tables.exec = Jvm.exec) (hb : c.code = cc) (hdg : decode cc pc = .ok (.ladd, 1)) (h : ia_pre C Z (ia_X p l e R s m args below meth c Q cells slots D cl A H0 Sh ad ca nL) (ia_f Sh (pc, .ladd, 1, a, b, w, v, ts) ls st hh)) : ia_X p l e R s m args below meth c Q cells slots D cl A H0 Sh ad ca nL (pc, ls, st, hh) := by
  simp only [ia_f] at h
  split at h <;> first | exact h.elim | skip
  all_goals (
    intro H locs lc hP hD hS hR
    exact lv_ladd hx hb hdg (h H locs lc hP hD hS hR))
theorem ia_s_lsub (hx : p.tables.exec = Jvm.exec) (hb : c.code = cc) (hdg : decode cc pc = .ok (.lsub, 1)) (h : ia_pre C Z (ia_X p l e R s m args below meth c Q cells slots D cl A H0 Sh ad ca nL) (ia_f Sh (pc, .lsub, 1, a, b, w, v, ts) ls st hh)) : ia_X p l e R s m args below meth c Q cells slots D cl A H0 Sh ad ca nL (pc, ls, st, hh) := by
  simp only [ia_f] at h
  split at h <;> first | exact h.elim | skip
  all_goals (
    intro H locs lc hP hD hS hR
    exact lv_lsub hx hb hdg (h H locs lc hP hD hS hR))
theorem ia_s_lmul (hx : p.tables.exec = Jvm.exec) (hb : c.code = cc) (hdg : decode cc pc = .ok (.lmul, 1)) (h : ia_pre C Z (ia_X p l e R s m args below meth c Q cells slots D cl A H0 Sh ad ca nL) (ia_f Sh (pc, .lmul, 1, a, b, w, v, ts) ls st hh)) : ia_X p l e R s m args below meth c Q cells slots D cl A H0 Sh ad ca nL (pc, ls, st, hh) := by
  simp only [ia_f] at h
  split at h <;> first | exact h.elim | skip
  all_goals (
    intro H locs lc hP hD hS hR
    exact lv_lmul hx hb hdg (h H locs lc hP hD hS hR))
theorem ia_s_land (hx : p.tables.exec = Jvm.exec) (hb : c.code = cc) (hdg : decode cc pc = .ok (.land, 1)) (h : ia_pre C Z (ia_X p l e R s m args below meth c Q cells slots D cl A H0 Sh ad ca nL) (ia_f Sh (pc, .land, 1, a, b, w, v, ts) ls st hh)) : ia_X p l e R s m args below meth c Q cells slots D cl A H0 Sh ad ca nL (pc, ls, st, hh) := by
  simp only [ia_f] at h
  split at h <;> first | exact h.elim | skip
  all_goals (
    intro H locs lc hP hD hS hR
    exact lv_land hx hb hdg (h H locs lc hP hD hS hR))
theorem ia_s_lor (hx : p.tables.exec = Jvm.exec) (hb : c.code = cc) (hdg : decode cc pc = .ok (.lor, 1)) (h : ia_pre C Z (ia_X p l e R s m args below meth c Q cells slots D cl A H0 Sh ad ca nL) (ia_f Sh (pc, .lor, 1, a, b, w, v, ts) ls st hh)) : ia_X p l e R s m args below meth c Q cells slots D cl A H0 Sh ad ca nL (pc, ls, st, hh) := by
  simp only [ia_f] at h
  split at h <;> first | exact h.elim | skip
  all_goals (
    intro H locs lc hP hD hS hR
    exact lv_lor hx hb hdg (h H locs lc hP hD hS hR))
theorem ia_s_lneg (hx : p.tables.exec = Jvm.exec) (hb : c.code = cc) (hdg : decode cc pc = .ok (.lneg, 1)) (h : ia_pre C Z (ia_X p l e R s m args below meth c Q cells slots D cl A H0 Sh ad ca nL) (ia_f Sh (pc, .lneg, 1, a, b, w, v, ts) ls st hh)) : ia_X p l e R s m args below meth c Q cells slots D cl A H0 Sh ad ca nL (pc, ls, st, hh) := by
  simp only [ia_f] at h
  split at h <;> first | exact h.elim | skip
  all_goals (
    intro H locs lc hP hD hS hR
    exact lv_lneg hx hb hdg (h H locs lc hP hD hS hR))
theorem ia_s_dneg (hx : p.tables.exec = Jvm.exec) (hb : c.code = cc) (hdg : decode cc pc = .ok (.dneg, 1)) (h : ia_pre C Z (ia_X p l e R s m args below meth c Q cells slots D cl A H0 Sh ad ca nL) (ia_f Sh (pc, .dneg, 1, a, b, w, v, ts) ls st hh)) : ia_X p l e R s m args below meth c Q cells slots D cl A H0 Sh ad ca nL (pc, ls, st, hh) := by
  simp only [ia_f] at h
  split at h <;> first | exact h.elim | skip
  all_goals (
    intro H locs lc hP hD hS hR
    exact lv_dneg hx hb hdg (h H locs lc hP hD hS hR))
theorem ia_s_i2d (hx : p.tables.exec = Jvm.exec) (hb : c.code = cc) (hdg : decode cc pc = .ok (.i2d, 1)) (h : ia_pre C Z (ia_X p l e R s m args below meth c Q cells slots D cl A H0 Sh ad ca nL) (ia_f Sh (pc, .i2d, 1, a, b, w, v, ts) ls st hh)) : ia_X p l e R s m args below meth c Q cells slots D cl A H0 Sh ad ca nL (pc, ls, st, hh) := by
  simp only [ia_f] at h
  split at h <;> first | exact h.elim | skip
  all_goals (
    intro H locs lc hP hD hS hR
    exact lv_i2d hx hb hdg (h H locs lc hP hD hS hR))
theorem ia_s_l2d (hx : p.tables.exec = Jvm.exec) (hb : c.code = cc) (hdg : decode cc pc = .ok (.l2d, 1)) (h : ia_pre C Z (ia_X p l e R s m args below meth c Q cells slots D cl A H0 Sh ad ca nL) (ia_f Sh (pc, .l2d, 1, a, b, w, v, ts) ls st hh)) : ia_X p l e R s m args below meth c Q cells slots D cl A H0 Sh ad ca nL (pc, ls, st, hh) := by
  simp only [ia_f] at h
  split at h <;> first | exact h.elim | skip
  all_goals (
    intro H locs lc hP hD hS hR
    exact lv_l2d hx hb hdg (h H locs lc hP hD hS hR))
theorem ia_s_d2l (hx : p.tables.exec = Jvm.exec) (hb : c.code = cc) (hdg : decode cc pc = .ok (.d2l, 1)) (h : ia_pre C Z (ia_X p l e R s m args below meth c Q cells slots D cl A H0 Sh ad ca nL) (ia_f Sh (pc, .d2l, 1, a, b, w, v, ts) ls st hh)) : ia_X p l e R s m args below meth c Q cells slots D cl A H0 Sh ad ca nL (pc, ls, st, hh) := by
  simp only [ia_f] at h
  split at h <;> first | exact h.elim | skip
  all_goals (
    intro H locs lc hP hD hS hR
    exact lv_d2l hx hb hdg (h H locs lc hP hD hS hR))
theorem ia_s_irem (hx : p.tables.exec = Jvm.exec) (hb : c.code = cc) (hdg : decode cc pc = .ok (.irem, 1)) (h : ia_pre C Z (ia_X p l e R s m args below meth c Q cells slots D cl A H0 Sh ad ca nL) (ia_f Sh (pc, .irem, 1, a, b, w, v, ts) ls st hh)) : ia_X p l e R s m args below meth c Q cells slots D cl A H0 Sh ad ca nL (pc, ls, st, hh) := by
  simp only [ia_f] at h
  split at h <;> first | exact h.elim | skip
  all_goals (
    obtain ⟨hg, h⟩ := h
    intro H locs lc hP hD hS hR
    exact lv_irem hx hb hdg hg (h H locs lc hP hD hS hR))
theorem ia_s_lshl (hx : p.tables.exec = Jvm.exec) (hb : c.code = cc) (hdg : decode cc pc = .ok (.lshl, 1)) (h : ia_pre C Z (ia_X p l e R s m args below meth c Q cells slots D cl A H0 Sh ad ca nL) (ia_f Sh (pc, .lshl, 1, a, b, w, v, ts) ls st hh)) : ia_X p l e R s m args below meth c Q cells slots D cl A H0 Sh ad ca nL (pc, ls, st, hh) := by
  simp only [ia_f] at h
  split at h <;> first | exact h.elim | skip
  all_goals (
    intro H locs lc hP hD hS hR
    exact lv_lshl hx hb hdg rfl (h H locs lc hP hD hS hR))
theorem ia_s_lcmp (hx : p.tables.exec = Jvm.exec) (hb : c.code = cc) (hdg : decode cc pc = .ok (.lcmp, 1)) (h : ia_pre C Z (ia_X p l e R s m args below meth c Q cells slots D cl A H0 Sh ad ca nL) (ia_f Sh (pc, .lcmp, 1, a, b, w, v, ts) ls st hh)) : ia_X p l e R s m args below meth c Q cells slots D cl A H0 Sh ad ca nL (pc, ls, st, hh) := by
  simp only [ia_f] at h
  split at h <;> first | exact h.elim | skip
  all_goals (
    intro H locs lc hP hD hS hR
    exact W.lcmp hx hb hdg (h H locs lc hP hD hS hR))
theorem ia_s_dcmp (hx : p.tables.exec = Jvm.exec) (hb : c.code = cc) {op : CmpOp} (hdg : decode cc pc = .ok (.dcmp op, 1)) (h : ia_pre C Z (ia_X p l e R s m args below meth c Q cells slots D cl A H0 Sh ad ca nL) (ia_f Sh (pc, .dcmp op, 1, a, b, w, v, ts) ls st hh)) : ia_X p l e R s m args below meth c Q cells slots D cl A H0 Sh ad ca nL (pc, ls, st, hh) := by
  simp only [ia_f] at h
  split at h <;> first | exact h.elim | skip
  all_goals (
    intro H locs lc hP hD hS hR
    exact lv_dcmp hx hb hdg (h H locs lc hP hD hS hR))
theorem ia_s_dadd (hx : p.tables.exec = Jvm.exec) (hb : c.code = cc) (hdg : decode cc pc = .ok (.dadd, 1)) (h : ia_pre C Z (ia_X p l e R s m args below meth c Q cells slots D cl A H0 Sh ad ca nL) (ia_f Sh (pc, .dadd, 1, a, b, w, v, ts) ls st hh)) : ia_X p l e R s m args below meth c Q cells slots D cl A H0 Sh ad ca nL (pc, ls, st, hh) := by
  simp only [ia_f] at h
  split at h <;> first | exact h.elim | skip
  all_goals (
    obtain ⟨hg, h⟩ := h
    intro H locs lc hP hD hS hR
    exact lv_dadd hx hb hdg hg (h H locs lc hP hD hS hR))
theorem ia_s_dmul (hx : p.tables.exec = Jvm.exec) (hb : c.code = cc) (hdg : decode cc pc = .ok (.dmul, 1)) (h : ia_pre C Z (ia_X p l e R s m args below meth c Q cells slots D cl A H0 Sh ad ca nL) (ia_f Sh (pc, .dmul, 1, a, b, w, v, ts) ls st hh)) : ia_X p l e R s m args below meth c Q cells slots D cl A H0 Sh ad ca nL (pc, ls, st, hh) := by
  simp only [ia_f] at h
  split at h <;> first | exact h.elim | skip
  all_goals (
    obtain ⟨hg, h⟩ := h
    intro H locs lc hP hD hS hR
    exact lv_dmul hx hb hdg hg (h H locs lc hP hD hS hR))
theorem ia_s_ddiv (hx : p.tables.exec = Jvm.exec) (hb : c.code = cc) (hdg : decode cc pc = .ok (.ddiv, 1)) (h : ia_pre C Z (ia_X p l e R s m args below meth c Q cells slots D cl A H0 Sh ad ca nL) (ia_f Sh (pc, .ddiv, 1, a, b, w, v, ts) ls st hh)) : ia_X p l e R s m args below meth c Q cells slots D cl A H0 Sh ad ca nL (pc, ls, st, hh) := by
  simp only [ia_f] at h
  split at h <;> first | exact h.elim | skip
  all_goals (
    obtain ⟨hg, h⟩ := h
    intro H locs lc hP hD hS hR
    exact lv_ddiv hx hb hdg hg (h H locs lc hP hD hS hR))
theorem ia_s_i2l (hx : p.tables.exec = Jvm.exec) (hb : c.code = cc) (hdg : decode cc pc = .ok (.i2l, 1)) (h : ia_pre C Z (ia_X p l e R s m args below meth c Q cells slots D cl A H0 Sh ad ca nL) (ia_f Sh (pc, .i2l, 1, a, b, w, v, ts) ls st hh)) : ia_X p l e R s m args below meth c Q cells slots D cl A H0 Sh ad ca nL (pc, ls, st, hh) := by
  simp only [ia_f] at h
  split at h <;> first | exact h.elim | skip
  all_goals (
    intro H locs lc hP hD hS hR
    exact lv_i2l hx hb hdg rfl (h H locs lc hP hD hS hR))
theorem ia_s_i2b (hx : p.tables.exec = Jvm.exec) (hb : c.code = cc) (hdg : decode cc pc = .ok (.i2b, 1)) (h : ia_pre C Z (ia_X p l e R s m args below meth c Q cells slots D cl A H0 Sh ad ca nL) (ia_f Sh (pc, .i2b, 1, a, b, w, v, ts) ls st hh)) : ia_X p l e R s m args below meth c Q cells slots D cl A H0 Sh ad ca nL (pc, ls, st, hh) := by
  simp only [ia_f] at h
  split at h <;> first | exact h.elim | skip
  all_goals (
    intro H locs lc hP hD hS hR
    exact lv_i2b hx hb hdg rfl (h H locs lc hP hD hS hR))
theorem ia_s_dup (hx : p.tables.exec = Jvm.exec) (hb : c.code = cc) (hdg : decode cc pc = .ok (.dup, 1)) (h : ia_pre C Z (ia_X p l e R s m args below meth c Q cells slots D cl A H0 Sh ad ca nL) (ia_f Sh (pc, .dup, 1, a, b, w, v, ts) ls st hh)) : ia_X p l e R s m args below meth c Q cells slots D cl A H0 Sh ad ca nL (pc, ls, st, hh) := by
  simp only [ia_f] at h
  split at h <;> first | exact h.elim | skip
  all_goals (
    intro H locs lc hP hD hS hR
    exact lv_dup hx hb hdg rfl (h H locs lc hP hD hS hR))
theorem ia_s_dup2 (hx : p.tables.exec = Jvm.exec) (hb : c.code = cc) (hdg : decode cc pc = .ok (.dup2, 1)) (h : ia_pre C Z (ia_X p l e R s m args below meth c Q cells slots D cl A H0 Sh ad ca nL) (ia_f Sh (pc, .dup2, 1, a, b, w, v, ts) ls st hh)) : ia_X p l e R s m args below meth c Q cells slots D cl A H0 Sh ad ca nL (pc, ls, st, hh) := by
  simp only [ia_f] at h
  split at h <;> first | exact h.elim | skip
  all_goals (
    intro H locs lc hP hD hS hR
    exact lv_dup2_11 hx hb hdg rfl rfl (h H locs lc hP hD hS hR))
theorem ia_s_goto (hx : p.tables.exec = Jvm.exec) (hb : c.code = cc) {off : Int} (ht : (pc : Int) + off = (a : Int)) (hdg : decode cc pc = .ok (.goto off, 3)) (h : ia_pre C Z (ia_X p l e R s m args below meth c Q cells slots D cl A H0 Sh ad ca nL) (ia_f Sh (pc, .goto off, 3, a, b, w, v, ts) ls st hh)) : ia_X p l e R s m args below meth c Q cells slots D cl A H0 Sh ad ca nL (pc, ls, st, hh) := by
  intro H locs lc hP hD hS hR
  exact lv_goto hx hb hdg ht (h H locs lc hP hD hS hR)
theorem ia_s_icmp_eq (hx : p.tables.exec = Jvm.exec) (hb : c.code = cc) {off : Int} (ht : (pc : Int) + off = (a : Int)) (hdg : decode cc pc = .ok (.if_icmp .eq off, 3)) (h : ia_pre C Z (ia_X p l e R s m args below meth c Q cells slots D cl A H0 Sh ad ca nL) (ia_f Sh (pc, .if_icmp .eq off, 3, a, b, w, v, ts) ls st hh)) : ia_X p l e R s m args below meth c Q cells slots D cl A H0 Sh ad ca nL (pc, ls, st, hh) := by
  simp only [ia_f] at h
  split at h <;> first | exact h.elim | skip
  all_goals (
    intro H locs lc hP hD hS hR
    exact lv_icmp_eq hx hb hdg ht (fun q => h.1 q H locs lc hP hD hS hR) (fun q => h.2 q H locs lc hP hD hS hR))
theorem ia_s_if_eq (hx : p.tables.exec = Jvm.exec) (hb : c.code = cc) {off : Int} (ht : (pc : Int) + off = (a : Int)) (hdg : decode cc pc = .ok (.ifCond .eq off, 3)) (h : ia_pre C Z (ia_X p l e R s m args below meth c Q cells slots D cl A H0 Sh ad ca nL) (ia_f Sh (pc, .ifCond .eq off, 3, a, b, w, v, ts) ls st hh)) : ia_X p l e R s m args below meth c Q cells slots D cl A H0 Sh ad ca nL (pc, ls, st, hh) := by
  simp only [ia_f] at h
  split at h <;> first | exact h.elim | skip
  all_goals (
    intro H locs lc hP hD hS hR
    exact lv_if_eq hx hb hdg ht (fun q => h.1 q H locs lc hP hD hS hR) (fun q => h.2 q H locs lc hP hD hS hR))
theorem ia_s_icmp_ne (hx : p.tables.exec = Jvm.exec) (hb : c.code = cc) {off : Int} (ht : (pc : Int) + off = (a : Int)) (hdg : decode cc pc = .ok (.if_icmp .ne off, 3)) (h : ia_pre C Z (ia_X p l e R s m args below meth c Q cells slots D cl A H0 Sh ad ca nL) (ia_f Sh (pc, .if_icmp .ne off, 3, a, b, w, v, ts) ls st hh)) : ia_X p l e R s m args below meth c Q cells slots D cl A H0 Sh ad ca nL (pc, ls, st, hh) := by
  simp only [ia_f] at h
  split at h <;> first | exact h.elim | skip
  all_goals (
    intro H locs lc hP hD hS hR
    exact lv_icmp_ne hx hb hdg ht (fun q => h.2 q H locs lc hP hD hS hR) (fun q => h.1 (by first | exact q | exact Classical.not_not.mp q) H locs lc hP hD hS hR))
theorem ia_s_if_ne (hx : p.tables.exec = Jvm.exec) (hb : c.code = cc) {off : Int} (ht : (pc : Int) + off = (a : Int)) (hdg : decode cc pc = .ok (.ifCond .ne off, 3)) (h : ia_pre C Z (ia_X p l e R s m args below meth c Q cells slots D cl A H0 Sh ad ca nL) (ia_f Sh (pc, .ifCond .ne off, 3, a, b, w, v, ts) ls st hh)) : ia_X p l e R s m args below meth c Q cells slots D cl A H0 Sh ad ca nL (pc, ls, st, hh) := by
  simp only [ia_f] at h
  split at h <;> first | exact h.elim | skip
  all_goals (
    intro H locs lc hP hD hS hR
    exact lv_if_ne hx hb hdg ht (fun q => h.2 q H locs lc hP hD hS hR) (fun q => h.1 (by first | exact q | exact Classical.not_not.mp q) H locs lc hP hD hS hR))
theorem ia_s_icmp_lt (hx : p.tables.exec = Jvm.exec) (hb : c.code = cc) {off : Int} (ht : (pc : Int) + off = (a : Int)) (hdg : decode cc pc = .ok (.if_icmp .lt off, 3)) (h : ia_pre C Z (ia_X p l e R s m args below meth c Q cells slots D cl A H0 Sh ad ca nL) (ia_f Sh (pc, .if_icmp .lt off, 3, a, b, w, v, ts) ls st hh)) : ia_X p l e R s m args below meth c Q cells slots D cl A H0 Sh ad ca nL (pc, ls, st, hh) := by
  simp only [ia_f] at h
  split at h <;> first | exact h.elim | skip
  all_goals (
    intro H locs lc hP hD hS hR
    exact lv_icmp_lt hx hb hdg ht (fun q => h.1 q H locs lc hP hD hS hR) (fun q => h.2 q H locs lc hP hD hS hR))
theorem ia_s_if_lt (hx : p.tables.exec = Jvm.exec) (hb : c.code = cc) {off : Int} (ht : (pc : Int) + off = (a : Int)) (hdg : decode cc pc = .ok (.ifCond .lt off, 3)) (h : ia_pre C Z (ia_X p l e R s m args below meth c Q cells slots D cl A H0 Sh ad ca nL) (ia_f Sh (pc, .ifCond .lt off, 3, a, b, w, v, ts) ls st hh)) : ia_X p l e R s m args below meth c Q cells slots D cl A H0 Sh ad ca nL (pc, ls, st, hh) := by
  simp only [ia_f] at h
  split at h <;> first | exact h.elim | skip
  all_goals (
    intro H locs lc hP hD hS hR
    exact lv_if_lt hx hb hdg ht (fun q => h.1 q H locs lc hP hD hS hR) (fun q => h.2 q H locs lc hP hD hS hR))
theorem ia_s_icmp_ge (hx : p.tables.exec = Jvm.exec) (hb : c.code = cc) {off : Int} (ht : (pc : Int) + off = (a : Int)) (hdg : decode cc pc = .ok (.if_icmp .ge off, 3)) (h : ia_pre C Z (ia_X p l e R s m args below meth c Q cells slots D cl A H0 Sh ad ca nL) (ia_f Sh (pc, .if_icmp .ge off, 3, a, b, w, v, ts) ls st hh)) : ia_X p l e R s m args below meth c Q cells slots D cl A H0 Sh ad ca nL (pc, ls, st, hh) := by
  simp only [ia_f] at h
  split at h <;> first | exact h.elim | skip
  all_goals (
    intro H locs lc hP hD hS hR
    exact lv_icmp_ge hx hb hdg ht (fun q => h.2 (Int32.not_lt.mpr q) H locs lc hP hD hS hR) (fun q => h.1 (Int32.not_le.mp q) H locs lc hP hD hS hR))
theorem ia_s_if_ge (hx : p.tables.exec = Jvm.exec) (hb : c.code = cc) {off : Int} (ht : (pc : Int) + off = (a : Int)) (hdg : decode cc pc = .ok (.ifCond .ge off, 3)) (h : ia_pre C Z (ia_X p l e R s m args below meth c Q cells slots D cl A H0 Sh ad ca nL) (ia_f Sh (pc, .ifCond .ge off, 3, a, b, w, v, ts) ls st hh)) : ia_X p l e R s m args below meth c Q cells slots D cl A H0 Sh ad ca nL (pc, ls, st, hh) := by
  simp only [ia_f] at h
  split at h <;> first | exact h.elim | skip
  all_goals (
    intro H locs lc hP hD hS hR
    exact lv_if_ge hx hb hdg ht (fun q => h.2 (Int32.not_lt.mpr q) H locs lc hP hD hS hR) (fun q => h.1 (Int32.not_le.mp q) H locs lc hP hD hS hR))
theorem ia_s_icmp_gt (hx : p.tables.exec = Jvm.exec) (hb : c.code = cc) {off : Int} (ht : (pc : Int) + off = (a : Int)) (hdg : decode cc pc = .ok (.if_icmp .gt off, 3)) (h : ia_pre C Z (ia_X p l e R s m args below meth c Q cells slots D cl A H0 Sh ad ca nL) (ia_f Sh (pc, .if_icmp .gt off, 3, a, b, w, v, ts) ls st hh)) : ia_X p l e R s m args below meth c Q cells slots D cl A H0 Sh ad ca nL (pc, ls, st, hh) := by
  simp only [ia_f] at h
  split at h <;> first | exact h.elim | skip
  all_goals (
    intro H locs lc hP hD hS hR
    exact lv_icmp_gt hx hb hdg ht (fun q => h.1 q H locs lc hP hD hS hR) (fun q => h.2 q H locs lc hP hD hS hR))
theorem ia_s_if_gt (hx : p.tables.exec = Jvm.exec) (hb : c.code = cc) {off : Int} (ht : (pc : Int) + off = (a : Int)) (hdg : decode cc pc = .ok (.ifCond .gt off, 3)) (h : ia_pre C Z (ia_X p l e R s m args below meth c Q cells slots D cl A H0 Sh ad ca nL) (ia_f Sh (pc, .ifCond .gt off, 3, a, b, w, v, ts) ls st hh)) : ia_X p l e R s m args below meth c Q cells slots D cl A H0 Sh ad ca nL (pc, ls, st, hh) := by
  simp only [ia_f] at h
  split at h <;> first | exact h.elim | skip
  all_goals (
    intro H locs lc hP hD hS hR
    exact lv_if_gt hx hb hdg ht (fun q => h.1 q H locs lc hP hD hS hR) (fun q => h.2 q H locs lc hP hD hS hR))
theorem ia_s_icmp_le (hx : p.tables.exec = Jvm.exec) (hb : c.code = cc) {off : Int} (ht : (pc : Int) + off = (a : Int)) (hdg : decode cc pc = .ok (.if_icmp .le off, 3)) (h : ia_pre C Z (ia_X p l e R s m args below meth c Q cells slots D cl A H0 Sh ad ca nL) (ia_f Sh (pc, .if_icmp .le off, 3, a, b, w, v, ts) ls st hh)) : ia_X p l e R s m args below meth c Q cells slots D cl A H0 Sh ad ca nL (pc, ls, st, hh) := by
  simp only [ia_f] at h
  split at h <;> first | exact h.elim | skip
  all_goals (
    intro H locs lc hP hD hS hR
    exact lv_icmp_le hx hb hdg ht (fun q => h.2 (Int32.not_lt.mpr q) H locs lc hP hD hS hR) (fun q => h.1 (Int32.not_le.mp q) H locs lc hP hD hS hR))
theorem ia_s_if_le (hx : p.tables.exec = Jvm.exec) (hb : c.code = cc) {off : Int} (ht : (pc : Int) + off = (a : Int)) (hdg : decode cc pc = .ok (.ifCond .le off, 3)) (h : ia_pre C Z (ia_X p l e R s m args below meth c Q cells slots D cl A H0 Sh ad ca nL) (ia_f Sh (pc, .ifCond .le off, 3, a, b, w, v, ts) ls st hh)) : ia_X p l e R s m args below meth c Q cells slots D cl A H0 Sh ad ca nL (pc, ls, st, hh) := by
  simp only [ia_f] at h
  split at h <;> first | exact h.elim | skip
  all_goals (
    intro H locs lc hP hD hS hR
    exact lv_if_le hx hb hdg ht (fun q => h.2 (Int32.not_lt.mpr q) H locs lc hP hD hS hR) (fun q => h.1 (Int32.not_le.mp q) H locs lc hP hD hS hR))
end IA
