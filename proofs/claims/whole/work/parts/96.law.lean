theorem lw_d0 : decode code 0 = .ok (.new 7, 3) := by decide +kernel
theorem lw_d3 : decode code 3 = .ok (.dup, 1) := by decide +kernel
theorem lw_d4 : decode code 4 = .ok (.invokespecial 9, 3) := by decide +kernel
theorem lw_d7 : decode code 7 = .ok (.astore_n 1, 1) := by decide +kernel
theorem lw_d8 : decode code 8 = .ok (.new 10, 3) := by decide +kernel
theorem lw_d11 : decode code 11 = .ok (.dup, 1) := by decide +kernel
theorem lw_d12 : decode code 12 = .ok (.invokespecial 12, 3) := by decide +kernel
theorem lw_d15 : decode code 15 = .ok (.astore_n 2, 1) := by decide +kernel
theorem lw_d16 : decode code 16 = .ok (.iconst 0, 1) := by decide +kernel
theorem lw_d17 : decode code 17 = .ok (.istore_n 3, 1) := by decide +kernel
def lw_ad (b : Nat) (a : Nat → Nat) : Nat → Nat := fun x => if x = 76 then b else a x
theorem lw_w_ad (b : Nat) (a : Nat → Nat) (ca : Nat → ClassId) (h : ia_H) : ia_w a ca h 0 ia_Sh = ia_w (lw_ad b a) ca h 0 ia_Sh :=
  ct_w_a (n := 76) (fun x hx => by rw [lw_ad, if_neg (by omega)]) (fun _ _ => rfl) (fun _ _ => rfl) (fun _ _ => rfl) ia_Sh 0 (by decide +kernel) (by decide +kernel)
/-- every class of the world can be made -/
def lw_isInst (C : String) : Cond → Bool
  | .instantiable D _ => D == C
  | _ => false
theorem lw_isInst_of {C : String} {w : Cond} (h : lw_isInst C w = true) : ∃ n, w = .instantiable C n := by
  unfold lw_isInst at h
  split at h
  · rename_i D n
    exact ⟨n, by rw [eq_of_beq h]⟩
  · cases h
theorem lw_inst : ∀ q ∈ ia_cl, ∃ n, Cond.instantiable q.1 n ∈ ct_Ts := by
  have key : (ia_cl.map Prod.fst).all (fun C => ct_X.any (lw_isInst C)) = true := by decide +kernel
  intro q hq
  have h1 := List.all_eq_true.mp key q.1 (List.mem_map.mpr ⟨q, hq, rfl⟩)
  obtain ⟨w, hw, hi⟩ := List.any_eq_true.mp h1
  obtain ⟨n, rfl⟩ := lw_isInst_of hi
  exact ⟨n, List.mem_append_left _ hw⟩
theorem lw_known {args : Array Value} {s : State} (hts : ∀ w ∈ ct_Ts, w.before args s = true) : ∃ D : va_G, va_K D ia_cl [] s := by
  have h : ∀ c : Nat, ∃ (cC : ClassId) (iS : Nat → Nat), ∀ q : vw_C, ia_cl[c]? = some q → u_Kn s q.1 q.2.1 q.2.2 cC iS := by
    intro c
    cases hq : ia_cl[c]? with
    | none => exact ⟨0, fun _ => 0, fun q h => by cases h⟩
    | some q =>
      obtain ⟨n, hn⟩ := lw_inst q (List.mem_of_getElem? hq)
      obtain ⟨cC, iS, hk⟩ := u_known (C := q.1) (T := q.2.1) (N := q.2.2) (n := n) hts (fun w hw => List.mem_append_right _ ((ia_Cl_ok c q hq).1 w hw)) (hts _ hn)
      exact ⟨cC, iS, fun q' h => by cases h; exact hk⟩
  exact ⟨(fun c => (h c).choose, fun c => (h c).choose_spec.choose), fun c q hq => (h c).choose_spec.choose_spec q hq, fun k q h => by simp at h⟩
section LW
variable {p : Program} {l : Launch} {e : Env} {R : Room} {s : State} {m : MethodId} {args : Array Value} {below : List Frame} {meth : Method} {c : Code} {Q : State → Prop} {cells slots : Nat} {H H0 : Heap} {locs : List Loc}
variable {bytes : ByteArray} {maxL : Nat} {own : String} {D : va_G} {A : Nat → Prop} {tys : List (ClassId × FieldType)} {pc : Nat} {ls : Array Slot} {rest : List Value} {ci : Nat} {T : u_T} {N : Nat}
/-- a new object, and its constructor, which is handed the whole world -/
theorem lw_make {ws : va_W} (hx : p.tables.exec = Jvm.exec) (hb : c.code = bytes) (hml : c.maxLocals = maxL) (hown : s.vm.findClass own = some m.cls) (hts : ∀ w ∈ ct_Ts, w.before args s = true) (hEn : ct_En s) (hK : va_K D ia_cl tys s) (hP : va_P D ia_cl ws H) (hD : va_D A ws) (hS : va_S A H0 H locs) (hA : ∀ q, H0.size ≤ q → A q)
    {C : String} {bc : ByteArray} {mx : Nat} {rm : Room} {fs0 : List Value} {Sh : List ia_C} {φ : Nat → ct_S → Prop} (hM : ct_Met l C bc mx rm D ci fs0 ws tys Sh φ)
    (hc : ia_cl[ci]? = some (C, T, N)) (hfs : ∀ j, j < N → defaultValue (ia_ty ci j) = vp_V fs0 j) {idx idx2 : Nat} (hcl : Cond.classLink own idx C ∈ ct_Ts) (hinst : Cond.instantiable C N ∈ ct_Ts) (hini : Cond.initialized C ∈ ct_Ts) (hcode : Cond.code (ct_ini C) bc mx none ∈ ct_Ts) (him : Cond.instanceMethod (ct_ini C) ∈ ct_Ts) (hlink : Cond.methodLink own idx2 (ct_ini C) ∈ ct_Ts)
    (hnm : C ≠ "java/lang/invoke/MethodHandle" ∧ C ≠ "java/lang/invoke/VarHandle") (hrm : rm.frames + 1 ≤ R.frames ∧ 8 + (mx + 11) + rm.locals ≤ R.locals) (hcells : cells + 1 + rm.cells ≤ R.cells) (hslots : slots + N + rm.slots ≤ R.slots) (hls : ls.size = maxL) (hrest : (rest.map fun v => v.category).sum + 1 ≤ 8)
    (d1 : decode bytes pc = .ok (.new idx, 3)) (d2 : decode bytes (pc + 3) = .ok (.dup, 1)) (d3 : decode bytes (pc + 4) = .ok (.invokespecial idx2, 3))
    (kk : ∀ (q : Nat) (u : ct_S) (H1 : Heap) (locs1 : List Loc), φ q u → va_K D ia_cl (ct_tys u.2.1 0 Sh) s → va_P D ia_cl (ia_w u.1 u.2.1 u.2.2 0 Sh) H1 → va_D A (ia_w u.1 u.2.1 u.2.2 0 Sh) → va_S A H0 H1 locs1 → W p l e R s m args below meth c H1 locs1 (cells + 1 + rm.cells) (slots + N + rm.slots) Q (F0 m (pc + 7) ls (.ref q :: rest))) : W p l e R s m args below meth c H locs cells slots Q (F0 m pc ls rest) := by
  obtain ⟨c1, c2, c3⟩ := ia_Cl_ok ci _ hc
  refine va_new (C := C) (T := T) (N := N) hx hb hts (fun w hw => List.mem_append_right _ (c1 w hw)) (ia_ty ci) c2 hown (hts _ hcl) (hts _ hinst) (hts _ hini) hK hP hD hS hA hc hfs (by omega) (by omega) d1 (fun q H hP hD hS => ?_)
  refine lv_dup hx hb d2 rfl ?_
  obtain ⟨hPc, hDa⟩ := ct_perm (ws' := (q, .inr (ci, fs0)) :: ws) List.perm_append_comm hP hD
  have hDc : va_D (fun _ => True) ((q, .inr (ci, fs0)) :: ws) := ct_Dm.mpr ⟨(ct_Dm.mp hDa).1, fun _ _ => trivial⟩
  have hFc : ∀ x, va_A ((q, .inr (ci, fs0)) :: ws) H.size x → A x := by
    intro x hx
    rcases hx with ⟨k, en, hk⟩ | hx
    · exact (ct_Dm.mp hDa).2 (x, en) (List.mem_of_getElem? hk)
    · exact hA x (Nat.le_trans hS.1 hx)
  have hGi : GoodIn ct_Ts (Cond.code (ct_ini C) bc mx none :: ct_Ts) := ia_goodIn ct_good (fun z hz => by
    rcases List.mem_cons.mp hz with rfl | hz
    · exact hcode
    · exact hz)
  have hpre : PreS s H (ct_Pre D ((q, .inr (ci, fs0)) :: ws) tys H.size q) [.ref q] := ⟨ct_blind, fun U hU hW => ⟨rfl, by rw [hU], by rw [hU]; exact hPc, va_K.moved hW.alike hK, hDc, hEn.warm hW⟩⟩
  have hdesc : (parseMethodDescriptor (ct_ini C).desc).map (fun d => d.parameters.length) = some 0 := (by decide +kernel : (parseMethodDescriptor "()V").map (fun d => d.parameters.length) = some 0)
  have hrun : va_Run p l e R s m args below meth c H locs (cells + 1) (slots + N) rm.cells rm.slots (F0 m (pc + 4) ls (.ref q :: .ref q :: rest)) (.ref q :: rest) (ct_Post D Sh (φ q) (va_A ((q, .inr (ci, fs0)) :: ws) H.size) #[Value.ref q]) (va_A ((q, .inr (ci, fs0)) :: ws) H.size) := by
    have hsum : ((Value.ref q :: rest).map fun v => v.category).sum ≤ 8 := by
      rw [List.map_cons, List.sum_cons]
      show 1 + _ ≤ 8
      omega
    exact va_runI (As := []) (rest := .ref q :: rest) ⟨hx, hb, hml, hown, hts⟩ (hM q H.size) ⟨callB_of 0 hts hGi rfl rfl rfl (hts _ hini) (hts _ hlink) ⟨hnm.1, hnm.2, hdesc⟩ hrm, rfl, hts _ him⟩ hpre rfl rfl hls rfl (lv_room hsum) d3 ⟨by omega, by omega⟩
  refine va_callv hrun hS (fun q _ h => hFc q h) hFc (fun u t H1 locs1 ht hvm hw hB hz1 hk1 hS1 => ?_)
  obtain ⟨hP1, hK1, hD1⟩ := hB
  rw [ht] at hP1
  exact kk q u H1 locs1 hw (va_K.moved hvm.symm hK1) hP1 (ct_Dm.mpr ⟨(ct_Dm.mp hD1).1, fun y hy => hFc _ ((ct_Dm.mp hD1).2 y hy)⟩) hS1
end LW
theorem lw_R {ad : Nat → Nat} {b q1 q2 : Nat} {ls : Array Slot} (hl : lv_has ls 4 [(3, .int 0), (2, .ref q2), (1, .ref q1), (0, .ref b)]) (h0 : ad 76 = b) (h1 : ad 0 = q1) (h2 : ad 52 = q2) : ia_R ad 4 ls (lw_ls 0) := by
  refine ia_R_of rfl hl (fun q hq => ?_)
  obtain ⟨v, hg, hv⟩ := ia_al_mem.mp hq
  obtain ⟨i, w⟩ := q
  match i, hg with
  | 0, hg =>
    have e : v = .ref 76 := (Option.some.inj hg).symm
    subst e
    have hv : w = .ref (ad 76) := hv
    rw [hv, h0]
    simp
  | 1, hg =>
    have e : v = .ref 0 := (Option.some.inj hg).symm
    subst e
    have hv : w = .ref (ad 0) := hv
    rw [hv, h1]
    simp
  | 2, hg =>
    have e : v = .ref 52 := (Option.some.inj hg).symm
    subst e
    have hv : w = .ref (ad 52) := hv
    rw [hv, h2]
    simp
  | 3, hg =>
    have e : v = .int (nI 0) := (Option.some.inj hg).symm
    subst e
    have hv : w = .int 0 := hv
    rw [hv]
    simp
  | i + 4, hg => cases hg
set_option maxHeartbeats 16000000 in
set_option maxRecDepth 20000 in
/-- from the entry the law comes to its end with true -/
theorem whole_start {p : Program} {e : Env} {s : State} {m : MethodId} {below : List Frame} {meth : Method} {c : Code} (l : Launch) (hflags : l.flags = flags0) {b L : Nat} {xs : Nat → Int32} (hL : L ≤ 3072) (C0 : lw_At p s m meth c b L xs) : W p l e room_1 s m #[Value.ref b] below meth c s.heap [] 0 0 (lw_Z below #[Value.ref b] s) (entryFrame m ([Value.ref b] : List Value).toArray 4) := by
  obtain ⟨hx, hb, hr, hml, hown, hts, hX, hbl, hlocks, hgv⟩ := id C0
  have hct : ∀ w ∈ ct_Ts, w.before #[Value.ref b] s = true := fun w hw => hts w (ct_Ts_in w hw)
  have hEn : ct_En s := ct_En.of hts
  have hA : ∀ q : Nat, s.heap.size ≤ q → (fun q : Nat => s.heap.size ≤ q) q := fun _ h => h
  obtain ⟨D, hK⟩ := lw_known hct
  have hS : va_S (fun q : Nat => s.heap.size ≤ q) s.heap s.heap [] := va_S.rf
  have hP : va_P D ia_cl [] s.heap := fun k q h => by simp at h
  have hD : va_D (fun q : Nat => s.heap.size ≤ q) [] := ⟨fun i j p q h => by simp at h, fun k q h => by simp at h⟩
  have hl := lv_entry ([.ref b]) (n := 4) (Nat.le_of_ble_eq_true rfl)
  rw [lg_entry_eq]
  generalize (lg_sl ([.ref b]) ++ List.replicate (4 - (lg_sl ([.ref b])).length) Slot.unset).toArray = ls at hl ⊢
  have hl : lv_has ls 4 [(0, .ref b)] := hl
  refine lw_make hx hb hml hown hct hEn hK hP hD hS hA (ct_cX7 l D) (T := TX7) (N := 8) rfl (fun j hj => by rcases (show j = 0 ∨ j = 1 ∨ j = 2 ∨ j = 3 ∨ j = 4 ∨ j = 5 ∨ j = 6 ∨ j = 7 by omega) with rfl | rfl | rfl | rfl | rfl | rfl | rfl | rfl <;> rfl) (List.mem_of_getElem? (i := 0) (by decide +kernel)) (List.mem_of_getElem? (i := 1) (by decide +kernel)) (List.mem_of_getElem? (i := 95) (by decide +kernel)) (List.mem_of_getElem? (i := 111) (by decide +kernel)) (List.mem_of_getElem? (i := 110) (by decide +kernel)) (List.mem_of_getElem? (i := 109) (by decide +kernel)) ⟨by decide, by decide⟩ ⟨Nat.le_of_ble_eq_true rfl, Nat.le_of_ble_eq_true rfl⟩ (Nat.le_of_ble_eq_true rfl) (Nat.le_of_ble_eq_true rfl) hl.1 (Nat.le_of_ble_eq_true rfl) lw_d0 lw_d3 lw_d4 (fun q1 u1 H locs hu1 hK hP hD hS => ?_)
  obtain ⟨a1, k1, g1⟩ := u1
  obtain ⟨ea, eg⟩ := hu1
  have ea : a1 0 = q1 := ea
  have eg : g1 = ct_eX7 := eg
  subst eg
  refine W.widen (k := 52) (n := 4188) (Nat.le_of_ble_eq_true rfl) (Nat.le_of_ble_eq_true rfl) ?_
  refine lv_astore_n (i := 1) hx hb lw_d7 rfl hl (Nat.le_of_ble_eq_true rfl) (lv' := [(1, .ref q1), (0, .ref b)]) rfl (fun ls hl => ?_)
  refine lw_make hx hb hml hown hct hEn hK hP hD hS hA (ct_cX8 l D a1 k1) (T := TX8) (N := 33) rfl (fun j hj => by rcases (show j = 0 ∨ j = 1 ∨ j = 2 ∨ j = 3 ∨ j = 4 ∨ j = 5 ∨ j = 6 ∨ j = 7 ∨ j = 8 ∨ j = 9 ∨ j = 10 ∨ j = 11 ∨ j = 12 ∨ j = 13 ∨ j = 14 ∨ j = 15 ∨ j = 16 ∨ j = 17 ∨ j = 18 ∨ j = 19 ∨ j = 20 ∨ j = 21 ∨ j = 22 ∨ j = 23 ∨ j = 24 ∨ j = 25 ∨ j = 26 ∨ j = 27 ∨ j = 28 ∨ j = 29 ∨ j = 30 ∨ j = 31 ∨ j = 32 by omega) with rfl | rfl | rfl | rfl | rfl | rfl | rfl | rfl | rfl | rfl | rfl | rfl | rfl | rfl | rfl | rfl | rfl | rfl | rfl | rfl | rfl | rfl | rfl | rfl | rfl | rfl | rfl | rfl | rfl | rfl | rfl | rfl | rfl <;> rfl) (List.mem_of_getElem? (i := 20) (by decide +kernel)) (List.mem_of_getElem? (i := 21) (by decide +kernel)) (List.mem_of_getElem? (i := 104) (by decide +kernel)) (List.mem_of_getElem? (i := 622) (by decide +kernel)) (List.mem_of_getElem? (i := 621) (by decide +kernel)) (List.mem_of_getElem? (i := 620) (by decide +kernel)) ⟨by decide, by decide⟩ ⟨Nat.le_of_ble_eq_true rfl, Nat.le_of_ble_eq_true rfl⟩ (Nat.le_of_ble_eq_true rfl) (Nat.le_of_ble_eq_true rfl) hl.1 (Nat.le_of_ble_eq_true rfl) lw_d8 lw_d11 lw_d12 (fun q2 u2 H locs hu2 hK hP hD hS => ?_)
  obtain ⟨a2, k2, g2⟩ := u2
  obtain ⟨h52, hq2, hj⟩ := hu2
  have h52 : ∀ x, x < 52 → a2 x = a1 x := h52
  have hq2 : a2 52 = q2 := hq2
  have hj : Jx g2 := hj
  refine W.widen (k := 76) (n := 22997) (Nat.le_of_ble_eq_true rfl) (Nat.le_of_ble_eq_true rfl) ?_
  refine lv_astore_n (i := 2) hx hb lw_d15 rfl hl (Nat.le_of_ble_eq_true rfl) (lv' := [(2, .ref q2), (1, .ref q1), (0, .ref b)]) rfl (fun ls hl => ?_)
  refine lv_iconst (v := 0) hx hb lw_d16 (by decide) ?_
  refine lv_istore_n (i := 3) hx hb lw_d17 rfl hl (Nat.le_of_ble_eq_true rfl) (lv' := [(3, .int 0), (2, .ref q2), (1, .ref q1), (0, .ref b)]) rfl (fun ls hl => ?_)
  have hP : va_P D ia_cl (ia_w a2 k2 g2 0 ia_Sh) H := hP
  have hD : va_D (fun q : Nat => s.heap.size ≤ q) (ia_w a2 k2 g2 0 ia_Sh) := hD
  rw [lw_w_ad b] at hP hD
  have had : lw_ad b a2 76 = b := rfl
  exact lw_rest hL C0 (ct_T k2 ia_Sh) hK had hj H locs ls hP hD hS (lw_R hl had (show a2 0 = q1 from (h52 0 (by decide)).trans ea) (show a2 52 = q2 from hq2))
