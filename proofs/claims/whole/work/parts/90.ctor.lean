/-! constructors: what they need of the tables and of the nest; rows of more than one instruction -/
def ct_X : List Cond := [(Jvm.Cond.classLink "OffsetBookLaw" (7 : Nat) "OffsetBook"), (Jvm.Cond.instantiable "OffsetBook" (8 : Nat)), (Jvm.Cond.classLink "OffsetBook" (9 : Nat) "OffsetBook$Reader"), (Jvm.Cond.instantiable "OffsetBook$Reader" (4 : Nat)), (Jvm.Cond.classLink "OffsetBook$Reader" (9 : Nat) "OffsetBook$Tape"), (Jvm.Cond.instantiable "OffsetBook$Tape" (3 : Nat)), (Jvm.Cond.arrayClass Jvm.ClassFile.FieldType.byte), (Jvm.Cond.classLink "OffsetBook" (18 : Nat) "OffsetBook$Told"), (Jvm.Cond.instantiable "OffsetBook$Told" (8 : Nat)), (Jvm.Cond.arrayClass Jvm.ClassFile.FieldType.int), (Jvm.Cond.arrayClass Jvm.ClassFile.FieldType.long), (Jvm.Cond.arrayClass Jvm.ClassFile.FieldType.boolean), (Jvm.Cond.classLink "OffsetBook" (25 : Nat) "OffsetBook$Groups"), (Jvm.Cond.instantiable "OffsetBook$Groups" (3 : Nat)), (Jvm.Cond.classLink "OffsetBook" (32 : Nat) "OffsetBook$Web"), (Jvm.Cond.instantiable "OffsetBook$Web" (14 : Nat)), (Jvm.Cond.classLink "OffsetBook" (39 : Nat) "OffsetBook$Acts"), (Jvm.Cond.instantiable "OffsetBook$Acts" (5 : Nat)), (Jvm.Cond.classLink "OffsetBook" (46 : Nat) "OffsetBook$Pins"), (Jvm.Cond.instantiable "OffsetBook$Pins" (2 : Nat)), (Jvm.Cond.classLink "OffsetBookLaw" (10 : Nat) "OffsetBookModel"), (Jvm.Cond.instantiable "OffsetBookModel" (33 : Nat))]
def ct_Ts : List Cond := ct_X ++ ia_Ts
theorem ct_Xp : ct_X = ([87, 88, 95, 96, 101, 102, 120, 137, 138, 189, 190, 191, 192, 193, 212, 213, 266, 267, 289, 290, 745, 746] : List Nat).filterMap (fun i => lw_tbl[i]?) := by decide +kernel
theorem ct_Ts_in : ∀ w ∈ ct_Ts, w ∈ lw_tbl := by
  intro w h
  rcases List.mem_append.mp h with h | h
  · rw [ct_Xp] at h
    obtain ⟨i, -, hi⟩ := List.mem_filterMap.mp h
    exact List.mem_of_getElem? hi
  · exact ia_Ts_in w h
theorem ct_good : ct_Ts.all goodWord = true := by
  unfold ct_Ts
  rw [List.all_append, Bool.and_eq_true]
  exact ⟨by decide +kernel, ia_good⟩
def ct_En (U : State) : Prop := (∀ w ∈ ia_Ns, va_Nw (ia_nw w) U) ∧ va_Nw (.methodLinkNest "OffsetBook" 11 ⟨"OffsetBook$Reader", "<init>", "()V"⟩ "OffsetBook") U ∧ va_Nw (.methodLinkNest "OffsetBook$Reader" 11 ⟨"OffsetBook$Tape", "<init>", "()V"⟩ "OffsetBook") U ∧ va_Nw (.methodLinkNest "OffsetBook" 20 ⟨"OffsetBook$Told", "<init>", "()V"⟩ "OffsetBook") U ∧ va_Nw (.methodLinkNest "OffsetBook" 41 ⟨"OffsetBook$Acts", "<init>", "()V"⟩ "OffsetBook") U ∧ va_AO "OffsetBook$Told" U
theorem ct_En.warm {s U : State} (hW : s.WarmedH U.vm) (h : ct_En s) : ct_En U := by
  obtain ⟨h0, h1, h2, h3, h4, ho⟩ := h
  exact ⟨fun w hw => va_Nw.warmF hW (h0 w hw), va_Nw.warmM hW h1, va_Nw.warmM hW h2, va_Nw.warmM hW h3, va_Nw.warmM hW h4, ho.moved hW.alike⟩
theorem ct_En.blind {U : State} {a : Array Value} {g : JFrame} {mk : MethodId} (h : ct_En U) : ct_En (U.calling g mk a) := by
  obtain ⟨h0, h1, h2, h3, h4, ho⟩ := h
  exact ⟨fun w hw => va_Nw.same rfl rfl (h0 w hw), va_Nw.same rfl rfl h1, va_Nw.same rfl rfl h2, va_Nw.same rfl rfl h3, va_Nw.same rfl rfl h4, va_AO.moved (u := U) (U := U.calling g mk a) (Vm.Alike.refl U.vm) ho⟩
theorem ct_En.of {b : Nat} {s : State} (hts : ∀ w ∈ lw_tbl, w.before #[Value.ref b] s = true) : ct_En s := ⟨fun w hw => va_Nw.of rfl (hts _ (ia_Ns_in w hw)), va_Nw.of rfl (hts _ (List.mem_of_getElem? (i := 97) (by decide +kernel))), va_Nw.of rfl (hts _ (List.mem_of_getElem? (i := 103) (by decide +kernel))), va_Nw.of rfl (hts _ (List.mem_of_getElem? (i := 139) (by decide +kernel))), va_Nw.of rfl (hts _ (List.mem_of_getElem? (i := 268) (by decide +kernel))), va_AO.of (hts _ (List.mem_of_getElem? (i := 303) (by decide +kernel)))⟩
theorem ct_oi1 : Cond.instanceMethod objectInit ∈ ct_Ts := (List.mem_of_getElem? (i := 113) (by decide +kernel))
theorem ct_oi2 : Cond.code objectInit ⟨#[0xb1]⟩ 1 none ∈ ct_Ts := (List.mem_of_getElem? (i := 114) (by decide +kernel))
/-! worlds by their members -/
theorem ct_Pm {D : va_G} {cl : List vw_C} {ws : va_W} {H : Heap} : va_P D cl ws H ↔ ∀ q ∈ ws, va_at D cl q H := by
  constructor
  · intro h q hq
    obtain ⟨k, hk⟩ := List.getElem?_of_mem hq
    exact h k q hk
  · intro h k q hk
    exact h q (List.mem_of_getElem? hk)
theorem ct_Dm {A : Nat → Prop} {ws : va_W} : va_D A ws ↔ (ws.map Prod.fst).Nodup ∧ ∀ q ∈ ws, A q.1 := by
  constructor
  · intro h
    refine ⟨?_, fun q hq => ?_⟩
    · rw [List.Nodup, List.pairwise_iff_getElem]
      intro i j hi hj hij he
      rw [List.length_map] at hi hj
      rw [List.getElem_map, List.getElem_map] at he
      have := h.1 i j _ _ (List.getElem?_eq_getElem hi) (List.getElem?_eq_getElem hj) he
      omega
    · obtain ⟨k, hk⟩ := List.getElem?_of_mem hq
      exact h.2 k q hk
  · intro h
    refine ⟨fun i j p q hp hq he => ?_, fun k q hk => h.2 q (List.mem_of_getElem? hk)⟩
    obtain ⟨hi, ei⟩ := List.getElem?_eq_some_iff.mp hp
    obtain ⟨hj, ej⟩ := List.getElem?_eq_some_iff.mp hq
    have h1 := h.1
    rw [List.Nodup, List.pairwise_iff_getElem] at h1
    rcases Nat.lt_trichotomy i j with c | c | c
    · refine absurd ?_ (h1 i j (by rw [List.length_map]; exact hi) (by rw [List.length_map]; exact hj) c)
      rw [List.getElem_map, List.getElem_map, ei, ej]
      exact he
    · exact c
    · refine absurd ?_ (h1 j i (by rw [List.length_map]; exact hj) (by rw [List.length_map]; exact hi) c)
      rw [List.getElem_map, List.getElem_map, ei, ej]
      exact he.symm
theorem ct_perm {D : va_G} {cl : List vw_C} {A : Nat → Prop} {ws ws' : va_W} {H : Heap} (h : ws.Perm ws') (hP : va_P D cl ws H) (hD : va_D A ws) : va_P D cl ws' H ∧ va_D A ws' := by
  refine ⟨ct_Pm.mpr fun q hq => ct_Pm.mp hP q (h.mem_iff.mpr hq), ct_Dm.mpr ⟨?_, fun q hq => (ct_Dm.mp hD).2 q (h.mem_iff.mpr hq)⟩⟩
  exact (h.map Prod.fst).nodup_iff.mp (ct_Dm.mp hD).1
theorem ct_Km {D : va_G} {cl : List vw_C} {tys tys' : List (ClassId × FieldType)} {U : State} (h : ∀ q ∈ tys', q ∈ tys) (hK : va_K D cl tys U) : va_K D cl tys' U := by
  refine ⟨hK.1, fun k q hk => ?_⟩
  obtain ⟨i, hi⟩ := List.getElem?_of_mem (h q (List.mem_of_getElem? hk))
  exact hK.2 i q hi
theorem ct_nd : ∀ (l : List Nat), l.Nodup → va_nd l = true
  | [], _ => rfl
  | b :: l, h => by
    rw [List.nodup_cons] at h
    simp only [va_nd, Bool.and_eq_true, decide_eq_true_eq]
    exact ⟨h.1, ct_nd l h.2⟩
theorem ct_join {D : va_G} {cl : List vw_C} {A0 : Nat → Prop} {ws w1 : va_W} {x : Nat × va_E} {H H1 : Heap} (hP : va_P D cl (ws ++ [x]) H) (hD : va_D A0 (ws ++ [x])) (hk : ∀ q : Nat, q < H.size → ¬ va_A [x] H.size q → H1[q]? = H[q]?) (hF : ∀ q, va_A [x] H.size q → A0 q) (hP1 : va_P D cl w1 H1) (hD1 : va_D (va_A [x] H.size) w1) : va_P D cl (ws ++ w1) H1 ∧ va_D A0 (ws ++ w1) := by
  refine va_join (wc := [x]) (wr := ws) hP hD [ws.length] (List.range ws.length) ?_ ?_ (ct_nd _ List.nodup_range) ?_ hk hF hP1 hD1
  · simp
  · apply List.ext_getElem?
    intro i
    rw [List.getElem?_map, List.getElem?_map]
    by_cases hi : i < ws.length
    · rw [List.getElem?_range hi, List.getElem?_eq_getElem hi]
      simp [List.getElem?_append_left hi, hi]
    · rw [List.getElem?_eq_none (by simpa using hi), List.getElem?_eq_none (by omega)]
      rfl
  · intro i hi hc
    rw [List.mem_range] at hi
    rw [List.mem_singleton] at hc
    omega
/-! what a constructor's contract says -/
def ct_tys (ca : Nat → ClassId) : Nat → List ia_C → List (ClassId × FieldType)
  | _, [] => []
  | x, .inl (ty, _) :: t => (ca x, ty) :: ct_tys ca (x + 1) t
  | x, .inr (.inl _) :: t => ct_tys ca (x + 1) t
  | x, .inr (.inr (C, _)) :: t => (ca x, .object C) :: ct_tys ca (x + 1) t
theorem ct_tys_at (ca : Nat → ClassId) : ∀ (Sh : List ia_C) (x0 x : Nat) (c : ia_C), ia_at? Sh x = some c → (∀ ty n, c = .inl (ty, n) → (ca (x0 + x), ty) ∈ ct_tys ca x0 Sh) ∧ ∀ C l, c = .inr (.inr (C, l)) → (ca (x0 + x), FieldType.object C) ∈ ct_tys ca x0 Sh
  | [], _, _, _, h => by cases h
  | d :: t, x0, 0, c, h => by
    cases h
    refine ⟨fun ty n e => ?_, fun C l e => ?_⟩
    · subst e
      exact List.mem_cons_self
    · subst e
      exact List.mem_cons_self
  | d :: t, x0, x + 1, c, h => by
    have ih := ct_tys_at ca t (x0 + 1) x c h
    rw [show x0 + 1 + x = x0 + (x + 1) by omega] at ih
    have sub : ∀ q, q ∈ ct_tys ca (x0 + 1) t → q ∈ ct_tys ca x0 (d :: t) := by
      intro q hq
      match d with
      | .inl (_, _) => exact List.mem_cons_of_mem _ hq
      | .inr (.inl _) => exact hq
      | .inr (.inr (_, _)) => exact List.mem_cons_of_mem _ hq
    exact ⟨fun ty n e => sub _ (ih.1 ty n e), fun C l e => sub _ (ih.2 C l e)⟩
theorem ct_T (ca : Nat → ClassId) (Sh : List ia_C) : ia_T Sh ca (ct_tys ca 0 Sh) := by
  refine ⟨fun x ty n h => ?_, fun x C l h => ?_⟩
  · have := (ct_tys_at ca Sh 0 x _ h).1 ty n rfl
    rw [Nat.zero_add] at this
    exact List.getElem?_of_mem this
  · have := (ct_tys_at ca Sh 0 x _ h).2 C l rfl
    rw [Nat.zero_add] at this
    exact List.getElem?_of_mem this
abbrev ct_S : Type := (Nat → Nat) × (Nat → ClassId) × ia_H
def ct_Pre (D : va_G) (w : va_W) (tys : List (ClassId × FieldType)) (sz q : Nat) : Array Value → State → Prop := va_Pc [.ref q] (fun U => U.heap.size = sz ∧ va_P D ia_cl w U.heap ∧ va_K D ia_cl tys U ∧ va_D (fun _ => True) w ∧ ct_En U)
abbrev ct_Wd (D : va_G) (Sh : List ia_C) (A : Nat → Prop) (u : ct_S) (t : State) : Prop := va_P D ia_cl (ia_w u.1 u.2.1 u.2.2 0 Sh) t.heap ∧ va_K D ia_cl (ct_tys u.2.1 0 Sh) t ∧ va_D A (ia_w u.1 u.2.1 u.2.2 0 Sh)
abbrev ct_Post (D : va_G) (Sh : List ia_C) (φ : ct_S → Prop) (A : Nat → Prop) : Array Value → State → Outcome → State → Prop := va_Qv φ (ct_Wd D Sh A) A
def ct_ini (C : String) : MethodName := ⟨C, "<init>", "()V"⟩
/-- the constructor's contract: the object's own cell, fresh, and cells wB beside it, come to be the cells of Sh -/
def ct_Met (l : Launch) (C : String) (bytes : ByteArray) (maxL : Nat) (rm : Room) (D : va_G) (ci : Nat) (fs0 : List Value) (wB : va_W) (tB : List (ClassId × FieldType)) (Sh : List ia_C) (φ : Nat → ct_S → Prop) : Prop :=
  ∀ q sz : Nat, Met l (ct_ini C) (Cond.code (ct_ini C) bytes maxL none :: ct_Ts) rm (ct_Pre D ((q, .inr (ci, fs0)) :: wB) tB sz q) (ct_Post D Sh (φ q) (va_A ((q, .inr (ci, fs0)) :: wB) sz)) rm.cells rm.slots (va_A ((q, .inr (ci, fs0)) :: wB) sz)
theorem ct_blind {D : va_G} {w : va_W} {tys : List (ClassId × FieldType)} {sz q : Nat} : FrameBlind (ct_Pre D w tys sz q) := fun a U g mk h => by
  obtain ⟨q0, q1, qP, qK, qD, qN⟩ := h
  exact ⟨q0, q1, qP, va_K.moved (u := U) (U := U.calling g mk a) (Vm.Alike.refl U.vm) qK, qD, qN.blind⟩
/-- what stands at a constructor's entry -/
def ct_B (p : Program) (s : State) (m : MethodId) (meth : Method) (c : Code) (args : Array Value) (bytes : ByteArray) (maxL : Nat) (own : String) : Prop :=
  p.tables.exec = Jvm.exec ∧ c.code = bytes ∧ meth.sig.returnType = none ∧ c.maxLocals = maxL ∧ s.vm.findClass own = some m.cls ∧ (∀ w ∈ ct_Ts, w.before args s = true) ∧ meth.locks = false ∧ meth.name = "<init>" ∧ ct_En s
/-- the first two instructions: Object's own constructor -/
theorem ct_of {l : Launch} {C : String} {bytes : ByteArray} {maxL : Nat} {rm : Room} {D : va_G} {ci : Nat} {fs0 : List Value} {wB : va_W} {tB : List (ClassId × FieldType)} {Sh : List ia_C} {φ : Nat → ct_S → Prop} (hC : plainName C = true) (d0 : decode bytes 0 = .ok (.aload_n 0, 1)) {idx : Nat} (d1 : decode bytes 1 = .ok (.invokespecial idx, 3)) (hlk : Cond.methodLink C idx objectInit ∈ ct_Ts) (hfr : 1 ≤ rm.frames) (hlo : 12 ≤ rm.locals) (hmax : 1 ≤ maxL)
    (body : ∀ (p : Program) (e : Env) (s : State) (m : MethodId) (h0 : Nat) (below : List Frame) (meth : Method) (c : Code) (ls : Array Slot) (A : Nat → Prop), ct_B p s m meth c #[Value.ref h0] bytes maxL C → lv_has ls maxL [(0, .ref h0)] → va_P D ia_cl ((h0, .inr (ci, fs0)) :: wB) s.heap → va_K D ia_cl tB s → va_D A ((h0, .inr (ci, fs0)) :: wB) → (∀ q, s.heap.size ≤ q → A q) →
      W p l e rm s m #[Value.ref h0] below meth c s.heap [] 0 0 (MQ below (ct_Post D Sh (φ h0) A) #[Value.ref h0] s rm.cells rm.slots A) (F0 m 4 ls [])) : ct_Met l C bytes maxL rm D ci fs0 wB tB Sh φ := by
  intro h0 sz
  refine Met.ofW (cc := bytes) (maxL := maxL) (ret := none) hC rfl ?_
  intro p e s m args below meth c s₁ B hml hv
  obtain ⟨rfl, hsz, hP, hK, hD0, hEn⟩ := hv
  have hx := B.exec
  have hb := B.bytes
  have hts0 := atoms_spec (ws := Cond.code (ct_ini C) bytes maxL none :: ct_Ts) B.pre
  have hts : ∀ w ∈ ct_Ts, w.before #[Value.ref h0] s = true := fun w hw => hts0 w (List.mem_cons_of_mem _ hw)
  have hown : s.vm.findClass C = some m.cls := findClass_of_methodNamed B.named
  have hin : meth.name = "<init>" := (name_of_methodNamed B.named B.method).1
  subst hsz
  have hD := hD0.self (sz := s.heap.size)
  generalize hAe : va_A ((h0, .inr (ci, fs0)) :: wB) s.heap.size = A at hD ⊢
  have hA : ∀ q : Nat, s.heap.size ≤ q → A q := fun q h => by rw [← hAe]; exact Or.inr h
  have hl := lv_entry ([.ref h0]) (n := maxL) (by have e1 : (lg_sl [Value.ref h0]).length = 1 := rfl; omega)
  rw [lg_entry_eq]
  generalize (lg_sl ([.ref h0]) ++ List.replicate (maxL - (lg_sl ([.ref h0])).length) Slot.unset).toArray = ls at hl ⊢
  have hl : lv_has ls maxL [(0, .ref h0)] := hl
  refine lv_aload_n hx hb d0 rfl (lv_at hl 0 rfl) ?_
  refine W.objInit hx hb hown (hts _ hlk) (hts _ ct_oi1) (hts _ ct_oi2) rfl (by rw [hml]; exact hl.1) rfl d1 hfr (show 2 * 0 + 0 + 12 ≤ rm.locals by omega) ?_
  refine W.eq (g2 := F0 m 4 ls []) rfl ?_
  exact body p e s m h0 below meth c ls A ⟨hx, hb, B.returns, hml, hown, hts, B.notSynchronized, hin, hEn⟩ hl hP hK hD hA
section CT
variable {p : Program} {l : Launch} {e : Env} {R : Room} {s : State} {m : MethodId} {args : Array Value} {below : List Frame} {meth : Method} {c : Code} {Q : State → Prop} {cells slots : Nat} {H H0 : Heap} {locs : List Loc}
variable {bytes : ByteArray} {maxL : Nat} {own : String} {D : va_G} {A : Nat → Prop} {tys : List (ClassId × FieldType)} {pc : Nat} {ls : Array Slot} {rest : List Value} {h0 ci : Nat} {fs : List Value} {wt : va_W} {T : u_T} {N : Nat}
/-- a final field of the object that is made -/
theorem ct_pf (hB : ct_B p s m meth c args bytes maxL own) (hK : va_K D ia_cl tys s) (hP : va_P D ia_cl ((h0, .inr (ci, fs)) :: wt) H) (hD : va_D A ((h0, .inr (ci, fs)) :: wt)) (hS : va_S A H0 H locs) (hc : ia_cl[ci]? = some (own, T, N)) (k : Nat) (hk : k < N) {index : Nat} (hlink : Cond.fieldLink own index (T k).1 (T k).2.1 (T k).2.2.1 ∈ ct_Ts) (hfin : (T k).2.2.2 = true) (hdecl : (T k).1 = own) {ty : FieldType} {v : Value} (hd : parseFieldDescriptor (T k).2.2.1 = some ty) (hn : narrow ty v = v) (hf : fits ty v = true) (hl : k < fs.length) (dg : decode bytes pc = .ok (.putfield index, 3))
    (kk : ∀ (H1 : Heap) (locs1 : List Loc), va_P D ia_cl ((h0, .inr (ci, fs.set k v)) :: wt) H1 → va_D A ((h0, .inr (ci, fs.set k v)) :: wt) → va_S A H0 H1 locs1 → W p l e R s m args below meth c H1 locs1 cells slots Q (F0 m (pc + 3) ls rest)) : W p l e R s m args below meth c H locs cells slots Q (F0 m pc ls (v :: .ref h0 :: rest)) := by
  obtain ⟨hx, hb, hr, hml, hown, hts, hlocks, hin, hEn⟩ := hB
  obtain ⟨c1, c2, c3⟩ := ia_Cl_ok ci _ hc
  exact va_putF (D := D) (C := own) (T := T) (N := N) hx hb hts (fun w hw => List.mem_append_right _ (c1 w hw)) (ia_ty ci) c2 c3 hown hK hP hD hS 0 rfl hc k hk (hts _ hlink) (fun _ h9 => h9) hfin hin hdecl hd hn hf hl dg kk
/-- an int field -/
theorem ct_pi (hB : ct_B p s m meth c args bytes maxL own) (hK : va_K D ia_cl tys s) (hP : va_P D ia_cl ((h0, .inr (ci, fs)) :: wt) H) (hD : va_D A ((h0, .inr (ci, fs)) :: wt)) (hS : va_S A H0 H locs) (hc : ia_cl[ci]? = some (own, T, N)) (k : Nat) (hk : k < N) {index : Nat} (hlink : Cond.fieldLink own index (T k).1 (T k).2.1 (T k).2.2.1 ∈ ct_Ts) (hfin : (T k).2.2.2 = false) {v : Int32} (hd : parseFieldDescriptor (T k).2.2.1 = some .int) (hl : k < fs.length) (dg : decode bytes pc = .ok (.putfield index, 3))
    (kk : ∀ (H1 : Heap) (locs1 : List Loc), va_P D ia_cl ((h0, .inr (ci, fs.set k (.int v))) :: wt) H1 → va_D A ((h0, .inr (ci, fs.set k (.int v))) :: wt) → va_S A H0 H1 locs1 → W p l e R s m args below meth c H1 locs1 cells slots Q (F0 m (pc + 3) ls rest)) : W p l e R s m args below meth c H locs cells slots Q (F0 m pc ls (.int v :: .ref h0 :: rest)) := by
  obtain ⟨hx, hb, hr, hml, hown, hts, hlocks, hin, hEn⟩ := hB
  obtain ⟨c1, c2, c3⟩ := ia_Cl_ok ci _ hc
  exact va_put (D := D) (C := own) (T := T) (N := N) hx hb hts (fun w hw => List.mem_append_right _ (c1 w hw)) (ia_ty ci) c2 c3 hown hK hP hD hS 0 rfl hc k hk (hts _ hlink) (fun _ h9 => h9) hfin hd rfl rfl hl dg kk
/-- a new array, into a final field -/
theorem ct_na (hB : ct_B p s m meth c args bytes maxL own) {atype : ArrayType} {ty : FieldType} (hty : newarray.typeOf atype = ty) (harr : Cond.arrayClass ty ∈ ct_Ts) (hK : va_K D ia_cl tys s) (hP : va_P D ia_cl ((h0, .inr (ci, fs)) :: wt) H) (hD : va_D A ((h0, .inr (ci, fs)) :: wt)) (hS : va_S A H0 H locs) (hA : ∀ q, H0.size ≤ q → A q)
    {n : Int32} {N' : Nat} {a0 : vp_A} (ha : ∀ cA : ClassId, vp_cell cA a0 = arrV cA N' (fun _ => defaultValue ty)) (hn : ¬ n < 0) (hN : n.toNatClampNeg = N') (hbytes : N' * componentBytes ty ≤ 536870912) (hcells : cells + 1 ≤ R.cells) (hslots : slots + N' ≤ R.slots) (d1 : decode bytes pc = .ok (.newarray atype, 2))
    (hc : ia_cl[ci]? = some (own, T, N)) (k : Nat) (hk : k < N) {index : Nat} (hlink : Cond.fieldLink own index (T k).1 (T k).2.1 (T k).2.2.1 ∈ ct_Ts) (hfin : (T k).2.2.2 = true) (hdecl : (T k).1 = own) (hd : parseFieldDescriptor (T k).2.2.1 = some (.array ty)) (hl : k < fs.length) (d2 : decode bytes (pc + 2) = .ok (.putfield index, 3))
    (kk : ∀ (q : Nat) (cA : ClassId) (H1 : Heap) (locs1 : List Loc), va_K D ia_cl (tys ++ [(cA, ty)]) s → va_P D ia_cl ((h0, .inr (ci, fs.set k (.ref q))) :: (wt ++ [(q, .inl (cA, a0))])) H1 → va_D A ((h0, .inr (ci, fs.set k (.ref q))) :: (wt ++ [(q, .inl (cA, a0))])) → va_S A H0 H1 locs1 → W p l e R s m args below meth c H1 locs1 (cells + 1) (slots + N') Q (F0 m (pc + 5) ls rest)) : W p l e R s m args below meth c H locs cells slots Q (F0 m pc ls (.int n :: .ref h0 :: rest)) := by
  have hB0 := hB
  obtain ⟨hx, hb, hr, hml, hown, hts, hlocks, hin, hEn⟩ := hB
  subst hty
  refine va_newa (atype := atype) hx hb (hts _ harr) rfl hK hP hD hS hA ha hn hN hbytes hcells hslots d1 (fun q cA H1 hK hP hD hS => ?_)
  have hP : va_P D ia_cl ((h0, .inr (ci, fs)) :: (wt ++ [(q, .inl (cA, a0))])) H1 := hP
  have hD : va_D A ((h0, .inr (ci, fs)) :: (wt ++ [(q, .inl (cA, a0))])) := hD
  exact ct_pf hB0 hK hP hD hS hc k hk hlink hfin hdecl hd rfl rfl hl d2 (fun H2 locs2 hP hD hS => kk q cA H2 locs2 hK hP hD hS)
/-- a new object, and its constructor -/
theorem ct_make {ws : va_W} (hB : ct_B p s m meth c args bytes maxL own) (hK : va_K D ia_cl tys s) (hP : va_P D ia_cl ws H) (hD : va_D A ws) (hS : va_S A H0 H locs) (hA : ∀ q, H0.size ≤ q → A q)
    {C : String} {bc : ByteArray} {mx : Nat} {rm : Room} {fs0 : List Value} {Sh : List ia_C} {φ : Nat → ct_S → Prop} (hM : ct_Met l C bc mx rm D ci fs0 [] [] Sh φ)
    (hc : ia_cl[ci]? = some (C, T, N)) (hfs : ∀ j, j < N → defaultValue (ia_ty ci j) = vp_V fs0 j) {idx idx2 : Nat} (hcl : Cond.classLink own idx C ∈ ct_Ts) (hinst : Cond.instantiable C N ∈ ct_Ts) (hini : Cond.initialized C ∈ ct_Ts) (hcode : Cond.code (ct_ini C) bc mx none ∈ ct_Ts) (him : Cond.instanceMethod (ct_ini C) ∈ ct_Ts) (hlink : Cond.methodLink own idx2 (ct_ini C) ∈ ct_Ts ∨ va_Nw (.methodLinkNest own idx2 (ct_ini C) "OffsetBook") s)
    (hnm : C ≠ "java/lang/invoke/MethodHandle" ∧ C ≠ "java/lang/invoke/VarHandle") (hrm : rm.frames + 1 ≤ R.frames ∧ 8 + (mx + 11) + rm.locals ≤ R.locals) (hcells : cells + 1 + rm.cells ≤ R.cells) (hslots : slots + N + rm.slots ≤ R.slots) (hls : ls.size = maxL) (hrest : (rest.map fun v => v.category).sum + 1 ≤ 8)
    (d1 : decode bytes pc = .ok (.new idx, 3)) (d2 : decode bytes (pc + 3) = .ok (.dup, 1)) (d3 : decode bytes (pc + 4) = .ok (.invokespecial idx2, 3))
    (kk : ∀ (q : Nat) (u : ct_S) (H1 : Heap) (locs1 : List Loc), φ q u → va_K D ia_cl (tys ++ ct_tys u.2.1 0 Sh) s → va_P D ia_cl (ws ++ ia_w u.1 u.2.1 u.2.2 0 Sh) H1 → va_D A (ws ++ ia_w u.1 u.2.1 u.2.2 0 Sh) → va_S A H0 H1 locs1 → W p l e R s m args below meth c H1 locs1 (cells + 1 + rm.cells) (slots + N + rm.slots) Q (F0 m (pc + 7) ls (.ref q :: rest))) : W p l e R s m args below meth c H locs cells slots Q (F0 m pc ls rest) := by
  obtain ⟨hx, hb, hr, hml, hown, hts, hlocks, hin, hEn⟩ := hB
  obtain ⟨c1, c2, c3⟩ := ia_Cl_ok ci _ hc
  refine va_new (C := C) (T := T) (N := N) hx hb hts (fun w hw => List.mem_append_right _ (c1 w hw)) (ia_ty ci) c2 hown (hts _ hcl) (hts _ hinst) (hts _ hini) hK hP hD hS hA hc hfs (by omega) (by omega) d1 (fun q H hP hD hS => ?_)
  refine lv_dup hx hb d2 rfl ?_
  have hPc : va_P D ia_cl [(q, .inr (ci, fs0))] H := ct_Pm.mpr fun x hx => ct_Pm.mp hP x (List.mem_append_right _ hx)
  have hDc : va_D (fun _ => True) [(q, .inr (ci, fs0))] := ct_Dm.mpr ⟨by simp, fun _ _ => trivial⟩
  have hFc : ∀ x, va_A [(q, .inr (ci, fs0))] H.size x → A x := by
    intro x hx
    rcases hx with ⟨k, en, hk⟩ | hx
    · exact (ct_Dm.mp hD).2 (x, en) (List.mem_append_right _ (List.mem_of_getElem? hk))
    · exact hA x (Nat.le_trans hS.1 hx)
  have hGi : GoodIn ct_Ts (Cond.code (ct_ini C) bc mx none :: ct_Ts) := ia_goodIn ct_good (fun z hz => by
    rcases List.mem_cons.mp hz with rfl | hz
    · exact hcode
    · exact hz)
  have hpre : PreS s H (ct_Pre D [(q, .inr (ci, fs0))] [] H.size q) [.ref q] := ⟨ct_blind, fun U hU hW => ⟨rfl, by rw [hU], by rw [hU]; exact hPc, va_K.moved hW.alike (ct_Km (fun x hx => absurd hx List.not_mem_nil) hK), hDc, hEn.warm hW⟩⟩
  have hdesc : (parseMethodDescriptor (ct_ini C).desc).map (fun d => d.parameters.length) = some 0 := (by decide +kernel : (parseMethodDescriptor "()V").map (fun d => d.parameters.length) = some 0)
  have hrun : va_Run p l e R s m args below meth c H locs (cells + 1) (slots + N) rm.cells rm.slots (F0 m (pc + 4) ls (.ref q :: .ref q :: rest)) (.ref q :: rest) (ct_Post D Sh (φ q) (va_A [(q, .inr (ci, fs0))] H.size) #[Value.ref q]) (va_A [(q, .inr (ci, fs0))] H.size) := by
    have hsum : ((Value.ref q :: rest).map fun v => v.category).sum ≤ 8 := by
      rw [List.map_cons, List.sum_cons]
      show 1 + _ ≤ 8
      omega
    rcases hlink with hlink | hlink
    · exact va_runI (As := []) (rest := .ref q :: rest) ⟨hx, hb, hml, hown, hts⟩ (hM q H.size) ⟨callB_of 0 hts hGi rfl rfl rfl (hts _ hini) (hts _ hlink) ⟨hnm.1, hnm.2, hdesc⟩ hrm, rfl, hts _ him⟩ hpre rfl rfl hls rfl (lv_room hsum) d3 ⟨by omega, by omega⟩
    · exact va_runIN (As := []) (rest := .ref q :: rest) ⟨hx, hb, hml, hown, hts⟩ (hM q H.size) ⟨va_cnB 0 hts hGi rfl rfl rfl hlink (hts _ hini) ⟨hnm.1, hnm.2, hdesc⟩ hrm, rfl, hts _ him⟩ hpre rfl rfl hls rfl (lv_room hsum) d3 ⟨by omega, by omega⟩
  refine va_callv hrun hS (fun q _ h => hFc q h) hFc (fun u t H1 locs1 ht hvm hw hB hz1 hk1 hS1 => ?_)
  obtain ⟨hP1, hK1, hD1⟩ := hB
  rw [ht] at hP1
  obtain ⟨hP2, hD2⟩ := ct_join hP hD hk1 hFc hP1 hD1
  exact kk q u H1 locs1 hw (hK.app (va_K.moved hvm.symm hK1)) hP2 hD2 hS1
end CT

