/-! switches, calls, ends -/
def ia_tg (x : Int32) (d : Nat) : List (Int × Nat) → Nat
  | [] => d
  | (k, t) :: ts => if x = Int32.ofInt k then t else ia_tg x d ts
theorem ia_sw_tg {X : ia_S → Prop} {x : Int32} {d : Nat} {ls : ia_L} {st : List Value} {h : ia_H} : ∀ {ts : List (Int × Nat)}, ia_sw X x d ls st h ts → X (ia_tg x d ts, ls, st, h)
  | [], hx => hx
  | (k, t) :: ts, hx => by
    by_cases hk : x = Int32.ofInt k
    · rw [ia_tg, if_pos hk]; exact hx.1 hk
    · rw [ia_tg, if_neg hk]; exact ia_sw_tg (hx.2 hk)
def ia_ts (pc : Nat) : Int → List Int → List (Int × Nat)
  | _, [] => []
  | lo, o :: os => (lo, ((pc : Int) + o).toNat) :: ia_ts pc (lo + 1) os
theorem ia_key {x : Int32} {k : Int} (h1 : -2 ^ 31 ≤ k) (h2 : k < 2 ^ 31) : x = Int32.ofInt k ↔ x.toInt = k := by
  rw [← Int32.toInt_inj, Int32.toInt_ofInt_of_le h1 h2]
theorem ia_tg_ts {pc d : Nat} {x : Int32} : ∀ {os : List Int} {lo : Int}, (∀ o ∈ os, 0 ≤ (pc : Int) + o) → -2 ^ 31 ≤ lo → lo + os.length ≤ 2 ^ 31 →
    (x.toInt < lo ∨ lo + os.length ≤ x.toInt → ia_tg x d (ia_ts pc lo os) = d) ∧ (lo ≤ x.toInt → x.toInt < lo + os.length → ∃ off, os[(x.toInt - lo).toNat]? = some off ∧ (pc : Int) + off = (ia_tg x d (ia_ts pc lo os) : Nat))
  | [], lo, _, _, _ => ⟨fun _ => rfl, fun h1 h2 => by simp at h2; omega⟩
  | o :: os, lo, h0, h1, h2 => by
    simp only [List.length_cons, Int.natCast_add, Int.cast_ofNat_Int] at h2
    obtain ⟨i1, i2⟩ := ia_tg_ts (pc := pc) (d := d) (x := x) (os := os) (lo := lo + 1) (fun q hq => h0 q (List.mem_cons_of_mem _ hq)) (by omega) (by omega)
    have hk := ia_key (x := x) (k := lo) h1 (by omega)
    simp only [ia_ts, ia_tg, List.length_cons, Int.natCast_add, Int.cast_ofNat_Int]
    by_cases he : x.toInt = lo
    · rw [if_pos (hk.mpr he)]
      refine ⟨fun q => by omega, fun _ _ => ⟨o, by rw [he]; simp, ?_⟩⟩
      have := h0 o List.mem_cons_self
      omega
    · rw [if_neg (fun q => he (hk.mp q))]
      refine ⟨fun q => i1 (by omega), fun q1 q2 => ?_⟩
      obtain ⟨off, e1, e2⟩ := i2 (by omega) (by omega)
      refine ⟨off, ?_, e2⟩
      rw [show (x.toInt - lo).toNat = (x.toInt - (lo + 1)).toNat + 1 by omega, List.getElem?_cons_succ]
      exact e1
def ia_lt (pc : Nat) : List (Int × Int) → List (Int × Nat)
  | [] => []
  | (k, o) :: os => (k, ((pc : Int) + o).toNat) :: ia_lt pc os
theorem ia_tg_lt {pc d : Nat} {x : Int32} {dflt : Int} (hd : (pc : Int) + dflt = d) : ∀ {os : List (Int × Int)}, (∀ o ∈ os, 0 ≤ (pc : Int) + o.2 ∧ -2 ^ 31 ≤ o.1 ∧ o.1 < 2 ^ 31) → (pc : Int) + Op.lookupswitch.offset os dflt x.toInt = (ia_tg x d (ia_lt pc os) : Nat)
  | [], _ => hd
  | (k, o) :: os, h0 => by
    obtain ⟨a1, a2, a3⟩ := h0 (k, o) List.mem_cons_self
    have hk := ia_key (x := x) a2 a3
    rw [Op.lookupswitch.offset_cons, ia_lt, ia_tg]
    by_cases he : x.toInt = k
    · rw [if_pos (hk.mpr he), if_pos (by first | exact he | exact he.symm)]
      simp only at a1
      omega
    · rw [if_neg (fun q => he (hk.mp q)), if_neg (by first | exact he | exact fun q => he q.symm)]
      exact ia_tg_lt hd (fun q hq => h0 q (List.mem_cons_of_mem _ hq))
theorem ia_pop_spec : ∀ {n : Nat} {acc st as r : List Value}, ia_pop n acc st = some (as, r) → ∃ f : List Value, f.length = n ∧ st = f ++ r ∧ as = f.reverse ++ acc
  | 0, acc, st, as, r, h => by
    simp only [ia_pop] at h
    cases h
    exact ⟨[], rfl, rfl, rfl⟩
  | n + 1, acc, [], as, r, h => by cases h
  | n + 1, acc, v :: st, as, r, h => by
    obtain ⟨f, h1, h2, h3⟩ := ia_pop_spec (n := n) (acc := v :: acc) (st := st) h
    exact ⟨v :: f, by simp [h1], by rw [h2]; rfl, by rw [h3]; simp⟩
theorem ia_sum4 (ad : Nat → Nat) : ∀ (st : List Value), ((st.map (ia_v ad)).map fun v => v.category).sum ≤ 2 * st.length
  | [] => by simp
  | v :: st => by
    have := ia_sum4 ad st
    have h2 : (ia_v ad v).category ≤ 2 := by rcases lv_cat (ia_v ad v) with q | q <;> omega
    simp only [List.map_cons, List.sum_cons, List.length_cons]
    omega
section IA3
variable {p : Program} {l : Launch} {e : Env} {R : Room} {s : State} {m : MethodId} {args : Array Value} {below : List Frame} {meth : Method} {c : Code} {Q : State → Prop} {cells slots : Nat}
variable {cc : ByteArray} {D : va_G} {cl : List vw_C} {A : Nat → Prop} {tys : List (ClassId × FieldType)} {H0 : Heap} {Sh : List ia_C} {ad : Nat → Nat} {ca : Nat → ClassId} {nL : Nat}
variable {C : Nat → List Value → ia_H → Option Value → ia_H → Prop} {Z : Option Value → ia_H → Prop} {pc a b w : Nat} {v : Value} {ts : List (Int × Nat)} {ls : ia_L} {st : List Value} {hh : ia_H}
theorem ia_s_tableswitch (hx : p.tables.exec = Jvm.exec) (hb : c.code = cc) {dflt lo hi : Int} {offs : Array Int} {len : Nat} (ht : (pc : Int) + dflt = (a : Int)) (h0 : ∀ o ∈ offs.toList, 0 ≤ (pc : Int) + o) (h1 : -2 ^ 31 ≤ lo) (h2 : hi + 1 ≤ 2 ^ 31) (h3 : lo + offs.toList.length = hi + 1) (hts : ts = ia_ts pc lo offs.toList) (hdg : decode cc pc = .ok (.tableswitch dflt lo hi offs, len)) (h : ia_pre C Z (ia_X p l e R s m args below meth c Q cells slots D cl A H0 Sh ad ca nL) (ia_f Sh (pc, .tableswitch dflt lo hi offs, len, a, b, w, v, ts) ls st hh)) : ia_X p l e R s m args below meth c Q cells slots D cl A H0 Sh ad ca nL (pc, ls, st, hh) := by
  simp only [ia_f] at h
  split at h <;> first | exact h.elim | skip
  rename_i x st'
  intro H locs lc hP hD hS hR
  have hX := ia_sw_tg h H locs lc hP hD hS hR
  obtain ⟨g1, g2⟩ := ia_tg_ts (pc := pc) (d := a) (x := x) h0 h1 (by omega)
  by_cases hr : x.toInt < lo ∨ hi < x.toInt
  · rw [hts, g1 (by omega)] at hX
    exact lv_tableOut hx hb hdg hr ht hX
  · obtain ⟨off, e1, e2⟩ := g2 (by omega) (by omega)
    rw [hts] at hX
    exact lv_tableIn hx hb hdg (by omega) (by omega) (off := off) (by rw [← Array.getElem?_toList]; exact e1) e2 hX
theorem ia_s_lookupswitch (hx : p.tables.exec = Jvm.exec) (hb : c.code = cc) {dflt : Int} {ps : Array (Int × Int)} {len : Nat} (ht : (pc : Int) + dflt = (a : Int)) (hp : (ps.toList.zip (ps.toList.drop 1)).all (fun (a, next) => a.1 < next.1) = true) (h0 : ∀ o ∈ ps.toList, 0 ≤ (pc : Int) + o.2 ∧ -2 ^ 31 ≤ o.1 ∧ o.1 < 2 ^ 31) (hts : ts = ia_lt pc ps.toList) (hdg : decode cc pc = .ok (.lookupswitch dflt ps, len)) (h : ia_pre C Z (ia_X p l e R s m args below meth c Q cells slots D cl A H0 Sh ad ca nL) (ia_f Sh (pc, .lookupswitch dflt ps, len, a, b, w, v, ts) ls st hh)) : ia_X p l e R s m args below meth c Q cells slots D cl A H0 Sh ad ca nL (pc, ls, st, hh) := by
  simp only [ia_f] at h
  split at h <;> first | exact h.elim | skip
  rename_i x st'
  intro H locs lc hP hD hS hR
  have hX := ia_sw_tg h H locs lc hP hD hS hR
  rw [hts] at hX
  exact lv_lookup hx hb hdg hp rfl (ia_tg_lt ht h0) hX
def ia_Wd (D : va_G) (cl : List vw_C) (tys : List (ClassId × FieldType)) (Sh : List ia_C) (ad : Nat → Nat) (ca : Nat → ClassId) (h : ia_H) (t : State) : Prop := va_P D cl (ia_w ad ca h 0 Sh) t.heap ∧ va_K D cl tys t
def ia_Post (D : va_G) (cl : List vw_C) (tys : List (ClassId × FieldType)) (Sh : List ia_C) (ad : Nat → Nat) (ca : Nat → ClassId) (A : Nat → Prop) (r : Option Value) (h : ia_H) : Array Value → State → Outcome → State → Prop := match r with
  | none => va_Qv (fun _ : Unit => True) (fun _ t => ia_Wd D cl tys Sh ad ca h t) A
  | some (.int x) => va_Qi (fun y (_ : Unit) => y = x) (fun _ t => ia_Wd D cl tys Sh ad ca h t) A
  | some (.long x) => va_Ql (fun y (_ : Unit) => y = x) (fun _ t => ia_Wd D cl tys Sh ad ca h t) A
  | some (.double x) => va_Qd (fun y (_ : Unit) => y = x) (fun _ t => ia_Wd D cl tys Sh ad ca h t) A
  | _ => fun _ _ _ _ => False
/-- links to a nest mate's private fields: not among the words that a contract may pass on, so they stand in its start -/
abbrev ia_N : Type := String × Nat × String × String × String × String
abbrev ia_nw (q : ia_N) : Cond := .fieldLinkNest q.1 q.2.1 q.2.2.1 q.2.2.2.1 q.2.2.2.2.1 q.2.2.2.2.2
def ia_Pre (Ns : List ia_N) (D : va_G) (cl : List vw_C) (tys : List (ClassId × FieldType)) (Sh : List ia_C) (ad : Nat → Nat) (ca : Nat → ClassId) (sz : Nat) (as : List Value) (h : ia_H) : Array Value → State → Prop := va_Pc (as.map (ia_v ad)) (fun U => U.heap.size = sz ∧ va_P D cl (ia_w ad ca h 0 Sh) U.heap ∧ va_K D cl tys U ∧ va_D (fun _ => True) (ia_w ad ca h 0 Sh) ∧ ∀ w ∈ Ns, va_Nw (ia_nw w) U)
abbrev ia_rm (M : ia_M) : Room := { frames := M.2.2.2.2.2.2.2.2.1, cells := 0, slots := 0, locals := M.2.2.2.2.2.2.2.2.2 }
abbrev ia_ws (Ts : List Cond) (M : ia_M) : List Cond := Cond.code M.2.1 M.2.2.1 M.2.2.2.1 M.2.2.2.2.1 :: Ts
/-- a method's contract out of what the pure machine says of it -/
def ia_Mt (l : Launch) (Ts : List Cond) (Ns : List ia_N) (MT : List ia_M) (D : va_G) (cl : List vw_C) (tys : List (ClassId × FieldType)) (Sh : List ia_C) (ad : Nat → Nat) (ca : Nat → ClassId) (y : Nat) (as : List Value) (h : ia_H) (r : Option Value) (h' : ia_H) : Prop :=
  ∀ M : ia_M, ia_meth MT y = some M → ∀ sz : Nat, Met l M.2.1 (ia_ws Ts M) (ia_rm M) (ia_Pre Ns D cl tys Sh ad ca sz as h) (ia_Post D cl tys Sh ad ca (va_A (ia_w ad ca h 0 Sh) sz) r h') 0 0 (va_A (ia_w ad ca h 0 Sh) sz)
theorem ia_blind {Ns : List ia_N} {sz : Nat} {as : List Value} {h : ia_H} : FrameBlind (ia_Pre Ns D cl tys Sh ad ca sz as h) := fun a U g mk q => by
  obtain ⟨q0, q1, qP, qK, qD, qN⟩ := q
  exact ⟨q0, q1, qP, va_K.moved (u := U) (U := U.calling g mk a) (Vm.Alike.refl U.vm) qK, qD, fun w hw => va_Nw.same rfl rfl (qN w hw)⟩
theorem ia_free {H : Heap} {locs : List Loc} (hD : va_D A (ia_w ad ca hh 0 Sh)) (hS : va_S A H0 H locs) (hA : ∀ q, H0.size ≤ q → A q) : ∀ q, va_A (ia_w ad ca hh 0 Sh) H.size q → A q := by
  intro q hq
  rcases hq with ⟨k, e, hk⟩ | hq
  · exact hD.2 k _ hk
  · exact hA q (Nat.le_trans hS.1 hq)
/-- behind a call -/
theorem ia_back {r : Option Value} {h' : ia_H} {rest : List Value} {H : Heap} {locs : List Loc} {lc : Array Slot} {st0 : List Value} {av : Array Value} (hD : va_D A (ia_w ad ca hh 0 Sh)) (hS : va_S A H0 H locs) (hA : ∀ q, H0.size ≤ q → A q) (hR : ia_R ad nL lc ls)
    (hrun : va_Run p l e R s m args below meth c H locs cells slots 0 0 (F0 m pc lc st0) (rest.map (ia_v ad)) (ia_Post D cl tys Sh ad ca (va_A (ia_w ad ca hh 0 Sh) H.size) r h' av) (va_A (ia_w ad ca hh 0 Sh) H.size))
    (kk : ia_X p l e R s m args below meth c Q cells slots D cl A H0 Sh ad ca nL (pc + 3, ls, r.toList ++ rest, h')) : W p l e R s m args below meth c H locs cells slots Q (F0 m pc lc st0) := by
  have hF := ia_free hD hS hA
  match r, hrun, kk with
  | none, hrun, kk =>
    refine va_callv (a := av) hrun hS (fun q _ h => hF q h) hF (fun u t H1 locs1 ht hvm hw hB hz1 hk1 hS1 => ?_)
    exact kk H1 locs1 lc (ht ▸ hB.1) (ia_D_congr hD) hS1 hR
  | some (.int x), hrun, kk =>
    refine va_calli (a := av) hrun hS (fun q _ h => hF q h) hF (fun y u t H1 locs1 ht hvm hw hB hz1 hk1 hS1 => ?_)
    subst hw
    exact kk H1 locs1 lc (ht ▸ hB.1) (ia_D_congr hD) hS1 hR
  | some (.long x), hrun, kk =>
    refine va_calll (a := av) hrun hS (fun q _ h => hF q h) hF (fun y u t H1 locs1 ht hvm hw hB hz1 hk1 hS1 => ?_)
    subst hw
    exact kk H1 locs1 lc (ht ▸ hB.1) (ia_D_congr hD) hS1 hR
  | some (.double x), hrun, kk =>
    refine va_calld (a := av) hrun hS (fun q _ h => hF q h) hF (fun y u t H1 locs1 ht hvm hw hB hz1 hk1 hS1 => ?_)
    subst hw
    exact kk H1 locs1 lc (ht ▸ hB.1) (ia_D_congr hD) hS1 hR
  | some (.float x), hrun, _ =>
    intro T hT X
    obtain ⟨v, st₀, t, T', L, h0, X', hL, e1, e2, hq, st⟩ := hrun T hT X
    exact hq.elim
  | some (.ref x), hrun, _ =>
    intro T hT X
    obtain ⟨v, st₀, t, T', L, h0, X', hL, e1, e2, hq, st⟩ := hrun T hT X
    exact hq.elim
  | some (.retAddr x), hrun, _ =>
    intro T hT X
    obtain ⟨v, st₀, t, T', L, h0, X', hL, e1, e2, hq, st⟩ := hrun T hT X
    exact hq.elim
  | some .null, hrun, _ =>
    intro T hT X
    obtain ⟨v, st₀, t, T', L, h0, X', hL, e1, e2, hq, st⟩ := hrun T hT X
    exact hq.elim
theorem ia_goodIn {Ts ws : List Cond} (hG : Ts.all goodWord = true) (h : ∀ w ∈ ws, w ∈ Ts) : GoodIn Ts ws := fun w hw => ⟨h w hw, good_of_word (List.all_eq_true.mp hG w (h w hw))⟩
theorem ia_s_invokevirtual (hx : p.tables.exec = Jvm.exec) (hb : c.code = cc) {own : String} {idx : Nat} {Ts : List Cond} {Ns : List ia_N} {MT : List ia_M} {M : ia_M} (hNs : ∀ w ∈ Ns, va_Nw (ia_nw w) s) (hml : c.maxLocals = nL) (hts : ∀ w ∈ Ts, w.before args s = true) (hown : s.vm.findClass own = some m.cls) (hG : Ts.all goodWord = true) (hK : va_K D cl tys s) (hA : ∀ q, H0.size ≤ q → A q) (hcell : cells ≤ R.cells ∧ slots ≤ R.slots)
    (hcode : Cond.code M.2.1 M.2.2.1 M.2.2.2.1 M.2.2.2.2.1 ∈ Ts) (hini : Cond.initialized M.2.1.cls ∈ Ts) (hnm : M.2.1.cls ≠ "java/lang/invoke/MethodHandle" ∧ M.2.1.cls ≠ "java/lang/invoke/VarHandle") (hpar : (parseMethodDescriptor M.2.1.desc).map (fun d => d.parameters.length) = some b) (hlink : Cond.methodLink own idx M.2.1 ∈ Ts) (hroom : (ia_rm M).frames + 1 ≤ R.frames ∧ 8 + (M.2.2.2.1 + 11) + (ia_rm M).locals ≤ R.locals) (hM : ia_meth MT a = some M)
    (hin : Cond.instanceMethod M.2.1 ∈ Ts) (hsel : Cond.selects M.2.1.cls M.2.1 M.2.1 ∈ Ts) {cj : Nat} {q : vw_C} (hq : cl[cj]? = some q) (hqn : q.1 = M.2.1.cls) (hdg : decode cc pc = .ok (.invokevirtual idx, 3)) (h : ia_pre (ia_Mt l Ts Ns MT D cl tys Sh ad ca) Z (ia_X p l e R s m args below meth c Q cells slots D cl A H0 Sh ad ca nL) (ia_f Sh (pc, .invokevirtual idx, 3, a, b, w, .ref cj, ts) ls st hh)) : ia_X p l e R s m args below meth c Q cells slots D cl A H0 Sh ad ca nL (pc, ls, st, hh) := by
  simp only [ia_f] at h
  split at h <;> first | exact h.elim | skip
  rename_i as x st' hpop
  split at h <;> first | exact h.elim | skip
  rename_i ci ks hc
  cases hbe : Nat.beq ci cj with
  | false => rw [hbe] at h; exact h.elim
  | true =>
    rw [hbe] at h
    have hci := ia_beq hbe
    subst hci
    simp only [cond_true] at h
    cases hbl : Nat.ble st'.length 4 with
    | false => rw [hbl] at h; exact h.elim
    | true =>
      rw [hbl] at h
      simp only [cond_true] at h
      have hlen := Nat.le_of_ble_eq_true hbl
      obtain ⟨⟨r, h'⟩, hC, hX⟩ := h
      intro H locs lc hP hD hS hR
      obtain ⟨f, f1, f2, f3⟩ := ia_pop_spec hpop
      rw [List.append_nil] at f3
      have hMet := hC M hM H.size
      have cw : CallW R s args own M.2.1.cls idx M.2.1 M.2.2.1 M.2.2.2.1 M.2.2.2.2.1 (ia_ws Ts M) (ia_rm M) 0 0 b := cwV b hts (ia_goodIn hG (fun z hz => by
        rcases List.mem_append.mp hz with hz | hz
        · rcases List.mem_cons.mp hz with rfl | hz
          · exact hlink
          rcases List.mem_cons.mp hz with rfl | hz
          · exact hin
          rcases List.mem_cons.mp hz with rfl | hz
          · exact hsel
          rcases List.mem_cons.mp hz with rfl | hz
          · exact hini
          cases hz
        · rcases List.mem_cons.mp hz with rfl | hz
          · exact hcode
          · exact hz)) rfl rfl rfl ⟨rfl, hnm.1, hnm.2, hpar⟩ hroom
      have hrec := va_recv hK hP hq (ia_w_at hc)
      rw [hqn] at hrec
      have hsum := ia_sum4 ad st'
      refine ia_back hD hS hA hR (va_runV (As := as.map (ia_v ad)) (rest := st'.map (ia_v ad)) (b := ad x) ⟨hx, hb, hml, hown, hts⟩ hMet cw ⟨ia_blind, hrec, fun U hU hW => ⟨rfl, by rw [hU], by rw [hU]; exact hP, va_K.moved hW.alike hK, hD.weaken (fun _ _ _ _ => trivial), fun w hw => va_Nw.warmF hW (hNs w hw)⟩⟩ rfl (by rw [f3]; simp [f1]) hR.2.1 (by show List.map _ _ = _; rw [f2, f3]; simp [ia_v]) (lv_room (by omega)) hdg ⟨hcell.1, hcell.2⟩) hX
theorem ia_s_invokestatic (hx : p.tables.exec = Jvm.exec) (hb : c.code = cc) {own : String} {idx : Nat} {Ts : List Cond} {Ns : List ia_N} {MT : List ia_M} {M : ia_M} (hNs : ∀ w ∈ Ns, va_Nw (ia_nw w) s) (hml : c.maxLocals = nL) (hts : ∀ w ∈ Ts, w.before args s = true) (hown : s.vm.findClass own = some m.cls) (hG : Ts.all goodWord = true) (hK : va_K D cl tys s) (hA : ∀ q, H0.size ≤ q → A q) (hcell : cells ≤ R.cells ∧ slots ≤ R.slots)
    (hcode : Cond.code M.2.1 M.2.2.1 M.2.2.2.1 M.2.2.2.2.1 ∈ Ts) (hini : Cond.initialized M.2.1.cls ∈ Ts) (hnm : M.2.1.cls ≠ "java/lang/invoke/MethodHandle" ∧ M.2.1.cls ≠ "java/lang/invoke/VarHandle") (hpar : (parseMethodDescriptor M.2.1.desc).map (fun d => d.parameters.length) = some b) (hlink : Cond.methodLink own idx M.2.1 ∈ Ts) (hroom : (ia_rm M).frames + 1 ≤ R.frames ∧ 8 + (M.2.2.2.1 + 11) + (ia_rm M).locals ≤ R.locals) (hM : ia_meth MT a = some M)
    (hstat : Cond.static M.2.1 ∈ Ts) (hdg : decode cc pc = .ok (.invokestatic idx, 3)) (h : ia_pre (ia_Mt l Ts Ns MT D cl tys Sh ad ca) Z (ia_X p l e R s m args below meth c Q cells slots D cl A H0 Sh ad ca nL) (ia_f Sh (pc, .invokestatic idx, 3, a + 6, b, w, v, ts) ls st hh)) : ia_X p l e R s m args below meth c Q cells slots D cl A H0 Sh ad ca nL (pc, ls, st, hh) := by
  simp only [ia_f] at h
  split at h <;> first | exact h.elim | skip
  rename_i as st' hpop
  cases hbl : Nat.ble st'.length 4 with
  | false => rw [hbl] at h; exact h.elim
  | true =>
    rw [hbl] at h
    simp only [cond_true] at h
    have hlen := Nat.le_of_ble_eq_true hbl
    obtain ⟨⟨r, h'⟩, hC, hX⟩ := h
    intro H locs lc hP hD hS hR
    obtain ⟨f, f1, f2, f3⟩ := ia_pop_spec hpop
    rw [List.append_nil] at f3
    have hMet := hC M hM H.size
    have hGi : GoodIn Ts (ia_ws Ts M) := ia_goodIn hG (fun z hz => by
        rcases List.mem_cons.mp hz with rfl | hz
        · exact hcode
        · exact hz)
    have cw : CallB R s args own idx M.2.1 M.2.2.1 M.2.2.2.1 M.2.2.2.2.1 (ia_ws Ts M) (ia_rm M) 0 0 b := callB_of b hts hGi rfl rfl rfl (hts _ hini) (hts _ hlink) ⟨hnm.1, hnm.2, hpar⟩ hroom
    have hsum := ia_sum4 ad st'
    refine ia_back hD hS hA hR (va_runS (As := as.map (ia_v ad)) (rest := st'.map (ia_v ad)) ⟨hx, hb, hml, hown, hts⟩ hMet ⟨cw, hts _ hstat⟩ ⟨ia_blind, fun U hU hW => ⟨rfl, by rw [hU], by rw [hU]; exact hP, va_K.moved hW.alike hK, hD.weaken (fun _ _ _ _ => trivial), fun w hw => va_Nw.warmF hW (hNs w hw)⟩⟩ rfl (by rw [f3]; simp [f1]) hR.2.1 (by show List.map _ _ = _; rw [f2, f3]; simp) (lv_room (by omega)) hdg ⟨hcell.1, hcell.2⟩) hX
theorem ia_s_d2raw (hx : p.tables.exec = Jvm.exec) (hb : c.code = cc) {own : String} {idx : Nat} (hml : c.maxLocals = nL) (hown : s.vm.findClass own = some m.cls) (hlink : (Cond.methodLink own idx ⟨"java/lang/Double", "doubleToRawLongBits", "(D)J"⟩).before args s = true) (hnat : (Cond.native ⟨"java/lang/Double", "doubleToRawLongBits", "(D)J"⟩).before args s = true) (hstat : (Cond.static ⟨"java/lang/Double", "doubleToRawLongBits", "(D)J"⟩).before args s = true) (hinit : (Cond.initialized "java/lang/Double").before args s = true) (hframes : 1 ≤ R.frames) (hlocals : 8 + 15 ≤ R.locals)
    (hdg : decode cc pc = .ok (.invokestatic idx, 3)) (h : ia_pre C Z (ia_X p l e R s m args below meth c Q cells slots D cl A H0 Sh ad ca nL) (ia_f Sh (pc, .invokestatic idx, 3, 0, b, w, v, ts) ls st hh)) : ia_X p l e R s m args below meth c Q cells slots D cl A H0 Sh ad ca nL (pc, ls, st, hh) := by
  simp only [ia_f] at h
  split at h <;> first | exact h.elim | skip
  rename_i x st'
  cases hbl : Nat.ble st'.length 4 with
  | false => rw [hbl] at h; exact h.elim
  | true =>
    rw [hbl] at h
    simp only [cond_true] at h
    have hlen := Nat.le_of_ble_eq_true hbl
    have hsum := ia_sum4 ad st'
    intro H locs lc hP hD hS hR
    exact vn_d2l hx hb (by rw [hml, hR.2.1]) hown hlink hnat hstat hinit hframes (by omega) hdg (h H locs lc hP hD hS hR)
theorem ia_s_arraycopy (hx : p.tables.exec = Jvm.exec) (hb : c.code = cc) {own : String} {idx : Nat} (hml : c.maxLocals = nL) (hown : s.vm.findClass own = some m.cls) (hK : va_K D cl tys s) (hT : ia_T Sh ca tys) (hlink : (Cond.methodLink own idx arraycopyName).before args s = true) (hnat : (Cond.native arraycopyName).before args s = true) (hstat : (Cond.static arraycopyName).before args s = true) (hini : (Cond.initialized "java/lang/System").before args s = true) (hframes : 1 ≤ R.frames) (hlocals : 8 + (nativeFrameWords "java/lang/System" "arraycopy" 5 + 11) ≤ R.locals)
    (hdg : decode cc pc = .ok (.invokestatic idx, 3)) (h : ia_pre C Z (ia_X p l e R s m args below meth c Q cells slots D cl A H0 Sh ad ca nL) (ia_f Sh (pc, .invokestatic idx, 3, 1, b, w, v, ts) ls st hh)) : ia_X p l e R s m args below meth c Q cells slots D cl A H0 Sh ad ca nL (pc, ls, st, hh) := by
  simp only [ia_f] at h
  split at h <;> first | exact h.elim | skip
  rename_i n dp y sp x st'
  split at h <;> first | exact h.elim | skip
  · rename_i n0 hc0
    split at h <;> first | exact h.elim | skip
    rename_i n1 hc1
    cases hbl : Nat.ble st'.length 4 with
    | false => rw [hbl] at h; exact h.elim
    | true =>
      rw [hbl] at h
      simp only [cond_true] at h
      have hlen := Nat.le_of_ble_eq_true hbl
      have hsum := ia_sum4 ad st'
      obtain ⟨t0, ht0⟩ := hT.1 _ _ _ hc0
      obtain ⟨t1, ht1⟩ := hT.1 _ _ _ hc1
      intro H locs lc hP hD hS hR
      have e := ia_w_set (ad := ad) (ca := ca) (h := hh) (h' := (ia_cpI hh.1 x y sp.toNatClampNeg dp.toNatClampNeg n.toNatClampNeg, hh.2)) hc1 (fun z hz => if_neg hz) (fun z _ => rfl) (v := .inl (ca y, n1, .inl (va_cpy (hh.1 x) (hh.1 y) sp.toNatClampNeg dp.toNatClampNeg n.toNatClampNeg))) (by simp only [ia_cell, ia_cpI, if_true])
      obtain ⟨⟨g1, g2, g3, g4, g5⟩, hX⟩ := h
      exact va_copyi hx hb (by rw [hml, hR.2.1]) hown hlink hnat hstat hini hK hP hD hS x y t0 t1 (ia_w_at hc0) (ia_w_at hc1) ht0 ht1 rfl g1 g2 g3 g4 g5 (fun i hi => rfl) hframes (by omega) hdg (fun H1 locs1 hP1 hD1 hS1 => hX H1 locs1 lc (e ▸ hP1) (e ▸ hD1) hS1 hR)
  · rename_i n0 hc0
    split at h <;> first | exact h.elim | skip
    rename_i n1 hc1
    cases hbl : Nat.ble st'.length 4 with
    | false => rw [hbl] at h; exact h.elim
    | true =>
      rw [hbl] at h
      simp only [cond_true] at h
      have hlen := Nat.le_of_ble_eq_true hbl
      have hsum := ia_sum4 ad st'
      obtain ⟨t0, ht0⟩ := hT.1 _ _ _ hc0
      obtain ⟨t1, ht1⟩ := hT.1 _ _ _ hc1
      intro H locs lc hP hD hS hR
      have e := ia_w_set (ad := ad) (ca := ca) (h := hh) (h' := (ia_cpI hh.1 x y sp.toNatClampNeg dp.toNatClampNeg n.toNatClampNeg, hh.2)) hc1 (fun z hz => if_neg hz) (fun z _ => rfl) (v := .inl (ca y, n1, .inl (va_cpy (hh.1 x) (hh.1 y) sp.toNatClampNeg dp.toNatClampNeg n.toNatClampNeg))) (by simp only [ia_cell, ia_cpI, if_true])
      obtain ⟨⟨g1, g2, g3, g4, g5, g6⟩, hX⟩ := h
      exact va_copyi hx hb (by rw [hml, hR.2.1]) hown hlink hnat hstat hini hK hP hD hS x y t0 t1 (ia_w_at hc0) (ia_w_at hc1) ht0 ht1 rfl g1 g2 g3 g4 g5 g6 hframes (by omega) hdg (fun H1 locs1 hP1 hD1 hS1 => hX H1 locs1 lc (e ▸ hP1) (e ▸ hD1) hS1 hR)
theorem ia_s_max_long (hx : p.tables.exec = Jvm.exec) (hb : c.code = cc) {own : String} {idx : Nat} (hml : c.maxLocals = nL) (hown : s.vm.findClass own = some m.cls) (hlink : (Cond.methodLink own idx Lib.MathLoose.max_long.x).before args s = true) (hcode : (Cond.code Lib.MathLoose.max_long.x Lib.MathLoose.max_long.code 4 (some .long)).before args s = true) (hstat : (Cond.static Lib.MathLoose.max_long.x).before args s = true) (hinit : (Cond.initialized "java/lang/Math").before args s = true) (hframes : 1 ≤ R.frames) (hlocals : 8 + 15 ≤ R.locals) (hcell : cells ≤ R.cells ∧ slots ≤ R.slots)
    (hdg : decode cc pc = .ok (.invokestatic idx, 3)) (h : ia_pre C Z (ia_X p l e R s m args below meth c Q cells slots D cl A H0 Sh ad ca nL) (ia_f Sh (pc, .invokestatic idx, 3, 2, b, w, v, ts) ls st hh)) : ia_X p l e R s m args below meth c Q cells slots D cl A H0 Sh ad ca nL (pc, ls, st, hh) := by
  simp only [ia_f] at h
  split at h <;> first | exact h.elim | skip
  rename_i st'
  cases hbl : Nat.ble st'.length 4 with
  | false => rw [hbl] at h; exact h.elim
  | true =>
    rw [hbl] at h
    simp only [cond_true] at h
    have hlen := Nat.le_of_ble_eq_true hbl
    have hsum := ia_sum4 ad st'
    intro H locs lc hP hD hS hR
    exact va_mmax_long hx hb (by rw [hml, hR.2.1]) hown hlink hstat hinit hcode hframes (by omega) hcell.1 hcell.2 hdg (h H locs lc hP hD hS hR)
theorem ia_s_min_long (hx : p.tables.exec = Jvm.exec) (hb : c.code = cc) {own : String} {idx : Nat} (hml : c.maxLocals = nL) (hown : s.vm.findClass own = some m.cls) (hlink : (Cond.methodLink own idx Lib.MathLoose.min_long.x).before args s = true) (hcode : (Cond.code Lib.MathLoose.min_long.x Lib.MathLoose.min_long.code 4 (some .long)).before args s = true) (hstat : (Cond.static Lib.MathLoose.min_long.x).before args s = true) (hinit : (Cond.initialized "java/lang/Math").before args s = true) (hframes : 1 ≤ R.frames) (hlocals : 8 + 15 ≤ R.locals) (hcell : cells ≤ R.cells ∧ slots ≤ R.slots)
    (hdg : decode cc pc = .ok (.invokestatic idx, 3)) (h : ia_pre C Z (ia_X p l e R s m args below meth c Q cells slots D cl A H0 Sh ad ca nL) (ia_f Sh (pc, .invokestatic idx, 3, 3, b, w, v, ts) ls st hh)) : ia_X p l e R s m args below meth c Q cells slots D cl A H0 Sh ad ca nL (pc, ls, st, hh) := by
  simp only [ia_f] at h
  split at h <;> first | exact h.elim | skip
  rename_i st'
  cases hbl : Nat.ble st'.length 4 with
  | false => rw [hbl] at h; exact h.elim
  | true =>
    rw [hbl] at h
    simp only [cond_true] at h
    have hlen := Nat.le_of_ble_eq_true hbl
    have hsum := ia_sum4 ad st'
    intro H locs lc hP hD hS hR
    exact va_mmin_long hx hb (by rw [hml, hR.2.1]) hown hlink hstat hinit hcode hframes (by omega) hcell.1 hcell.2 hdg (h H locs lc hP hD hS hR)
theorem ia_s_abs_long (hx : p.tables.exec = Jvm.exec) (hb : c.code = cc) {own : String} {idx : Nat} (hml : c.maxLocals = nL) (hown : s.vm.findClass own = some m.cls) (hlink : (Cond.methodLink own idx Lib.MathLoose.abs_long.x).before args s = true) (hcode : (Cond.code Lib.MathLoose.abs_long.x Lib.MathLoose.abs_long.code 2 (some .long)).before args s = true) (hstat : (Cond.static Lib.MathLoose.abs_long.x).before args s = true) (hinit : (Cond.initialized "java/lang/Math").before args s = true) (hframes : 1 ≤ R.frames) (hlocals : 8 + 15 ≤ R.locals) (hcell : cells ≤ R.cells ∧ slots ≤ R.slots)
    (hdg : decode cc pc = .ok (.invokestatic idx, 3)) (h : ia_pre C Z (ia_X p l e R s m args below meth c Q cells slots D cl A H0 Sh ad ca nL) (ia_f Sh (pc, .invokestatic idx, 3, 4, b, w, v, ts) ls st hh)) : ia_X p l e R s m args below meth c Q cells slots D cl A H0 Sh ad ca nL (pc, ls, st, hh) := by
  simp only [ia_f] at h
  split at h <;> first | exact h.elim | skip
  rename_i st'
  cases hbl : Nat.ble st'.length 4 with
  | false => rw [hbl] at h; exact h.elim
  | true =>
    rw [hbl] at h
    simp only [cond_true] at h
    have hlen := Nat.le_of_ble_eq_true hbl
    have hsum := ia_sum4 ad st'
    intro H locs lc hP hD hS hR
    exact va_mabs_long hx hb (by rw [hml, hR.2.1]) hown hlink hstat hinit hcode hframes (by omega) hcell.1 hcell.2 hdg (h H locs lc hP hD hS hR)
theorem ia_s_min_int (hx : p.tables.exec = Jvm.exec) (hb : c.code = cc) {own : String} {idx : Nat} (hml : c.maxLocals = nL) (hown : s.vm.findClass own = some m.cls) (hlink : (Cond.methodLink own idx Lib.Math.min.name).before args s = true) (hcode : (Cond.code Lib.Math.min.name Lib.Math.min.code 2 (some .int)).before args s = true) (hstat : (Cond.static Lib.Math.min.name).before args s = true) (hinit : (Cond.initialized "java/lang/Math").before args s = true) (hframes : 1 ≤ R.frames) (hlocals : 8 + 15 ≤ R.locals) (hcell : cells ≤ R.cells ∧ slots ≤ R.slots)
    (hdg : decode cc pc = .ok (.invokestatic idx, 3)) (h : ia_pre C Z (ia_X p l e R s m args below meth c Q cells slots D cl A H0 Sh ad ca nL) (ia_f Sh (pc, .invokestatic idx, 3, 5, b, w, v, ts) ls st hh)) : ia_X p l e R s m args below meth c Q cells slots D cl A H0 Sh ad ca nL (pc, ls, st, hh) := by
  simp only [ia_f] at h
  split at h <;> first | exact h.elim | skip
  rename_i st'
  cases hbl : Nat.ble st'.length 4 with
  | false => rw [hbl] at h; exact h.elim
  | true =>
    rw [hbl] at h
    simp only [cond_true] at h
    have hlen := Nat.le_of_ble_eq_true hbl
    have hsum := ia_sum4 ad st'
    intro H locs lc hP hD hS hR
    exact va_mmin hx hb (by rw [hml, hR.2.1]) hown hlink hstat hinit hcode hframes (by omega) hcell.1 hcell.2 hdg (h H locs lc hP hD hS hR)
theorem ia_s_ireturn {r0 : Option Value} {h1 : ia_H} (hx : p.tables.exec = Jvm.exec) (hb : c.code = cc) (hlocks : meth.locks = false) (hK : va_K D cl tys s) (hr : meth.sig.returnType = some .int) (hdg : decode cc pc = .ok (.ireturn, 1)) (h : ia_pre C (fun r1 h2 => r1 = r0 ∧ h2 = h1) (ia_X p l e R s m args below meth c (MQ below (ia_Post D cl tys Sh ad ca A r0 h1) args s cells slots A) cells slots D cl A s.heap Sh ad ca nL) (ia_f Sh (pc, .ireturn, 1, 0, b, w, v, ts) ls st hh)) : ia_X p l e R s m args below meth c (MQ below (ia_Post D cl tys Sh ad ca A r0 h1) args s cells slots A) cells slots D cl A s.heap Sh ad ca nL (pc, ls, st, hh) := by
  simp only [ia_f] at h
  split at h <;> first | exact h.elim | skip
  rename_i x
  obtain ⟨rfl, rfl⟩ := h
  intro H locs lc hP hD hS hR
  exact W.iret (v := x) hx hb hr (fun t ht hW => ⟨⟨x, (), rfl, rfl, ⟨by rw [ht]; exact hP, va_K.moved hW.alike hK⟩⟩, hS.F ht⟩) hS.2.2 hdg
theorem ia_s_zreturn {r0 : Option Value} {h1 : ia_H} (hx : p.tables.exec = Jvm.exec) (hb : c.code = cc) (hlocks : meth.locks = false) (hK : va_K D cl tys s) (hr : meth.sig.returnType = some .boolean) (hdg : decode cc pc = .ok (.ireturn, 1)) (h : ia_pre C (fun r1 h2 => r1 = r0 ∧ h2 = h1) (ia_X p l e R s m args below meth c (MQ below (ia_Post D cl tys Sh ad ca A r0 h1) args s cells slots A) cells slots D cl A s.heap Sh ad ca nL) (ia_f Sh (pc, .ireturn, 1, 1, b, w, v, ts) ls st hh)) : ia_X p l e R s m args below meth c (MQ below (ia_Post D cl tys Sh ad ca A r0 h1) args s cells slots A) cells slots D cl A s.heap Sh ad ca nL (pc, ls, st, hh) := by
  simp only [ia_f] at h
  split at h <;> first | exact h.elim | skip
  rename_i x
  obtain ⟨h01, rfl, rfl⟩ := h
  intro H locs lc hP hD hS hR
  exact W.zret (v := x) hx hb hr (by rcases h01 with rfl | rfl <;> rfl) (fun t ht hW => ⟨⟨x, (), rfl, rfl, ⟨by rw [ht]; exact hP, va_K.moved hW.alike hK⟩⟩, hS.F ht⟩) hS.2.2 hdg
theorem ia_s_lreturn {r0 : Option Value} {h1 : ia_H} (hx : p.tables.exec = Jvm.exec) (hb : c.code = cc) (hlocks : meth.locks = false) (hK : va_K D cl tys s) (hr : meth.sig.returnType = some .long) (hdg : decode cc pc = .ok (.lreturn, 1)) (h : ia_pre C (fun r1 h2 => r1 = r0 ∧ h2 = h1) (ia_X p l e R s m args below meth c (MQ below (ia_Post D cl tys Sh ad ca A r0 h1) args s cells slots A) cells slots D cl A s.heap Sh ad ca nL) (ia_f Sh (pc, .lreturn, 1, a, b, w, v, ts) ls st hh)) : ia_X p l e R s m args below meth c (MQ below (ia_Post D cl tys Sh ad ca A r0 h1) args s cells slots A) cells slots D cl A s.heap Sh ad ca nL (pc, ls, st, hh) := by
  simp only [ia_f] at h
  split at h <;> first | exact h.elim | skip
  rename_i x
  obtain ⟨rfl, rfl⟩ := h
  intro H locs lc hP hD hS hR
  exact W.lret (v := x) hx hb hr (fun t ht hW => ⟨⟨x, (), rfl, rfl, ⟨by rw [ht]; exact hP, va_K.moved hW.alike hK⟩⟩, hS.F ht⟩) hS.2.2 hdg
theorem ia_s_dreturn {r0 : Option Value} {h1 : ia_H} (hx : p.tables.exec = Jvm.exec) (hb : c.code = cc) (hlocks : meth.locks = false) (hK : va_K D cl tys s) (hr : meth.sig.returnType = some .double) (hdg : decode cc pc = .ok (.dreturn, 1)) (h : ia_pre C (fun r1 h2 => r1 = r0 ∧ h2 = h1) (ia_X p l e R s m args below meth c (MQ below (ia_Post D cl tys Sh ad ca A r0 h1) args s cells slots A) cells slots D cl A s.heap Sh ad ca nL) (ia_f Sh (pc, .dreturn, 1, a, b, w, v, ts) ls st hh)) : ia_X p l e R s m args below meth c (MQ below (ia_Post D cl tys Sh ad ca A r0 h1) args s cells slots A) cells slots D cl A s.heap Sh ad ca nL (pc, ls, st, hh) := by
  simp only [ia_f] at h
  split at h <;> first | exact h.elim | skip
  rename_i x
  obtain ⟨rfl, rfl⟩ := h
  intro H locs lc hP hD hS hR
  exact W.dret (v := x) hx hb hr (fun t ht hW => ⟨⟨x, (), rfl, rfl, ⟨by rw [ht]; exact hP, va_K.moved hW.alike hK⟩⟩, hS.F ht⟩) hS.2.2 hdg
theorem ia_s_return {r0 : Option Value} {h1 : ia_H} (hx : p.tables.exec = Jvm.exec) (hb : c.code = cc) (hlocks : meth.locks = false) (hK : va_K D cl tys s) (hr : meth.sig.returnType = none) (hdg : decode cc pc = .ok (.return_, 1)) (h : ia_pre C (fun r1 h2 => r1 = r0 ∧ h2 = h1) (ia_X p l e R s m args below meth c (MQ below (ia_Post D cl tys Sh ad ca A r0 h1) args s cells slots A) cells slots D cl A s.heap Sh ad ca nL) (ia_f Sh (pc, .return_, 1, a, b, w, v, ts) ls st hh)) : ia_X p l e R s m args below meth c (MQ below (ia_Post D cl tys Sh ad ca A r0 h1) args s cells slots A) cells slots D cl A s.heap Sh ad ca nL (pc, ls, st, hh) := by
  simp only [ia_f] at h
  split at h <;> first | exact h.elim | skip
  obtain ⟨rfl, rfl⟩ := h
  intro H locs lc hP hD hS hR
  exact W.vret hx hb hr (fun t ht hW => ⟨⟨(), rfl, trivial, ⟨by rw [ht]; exact hP, va_K.moved hW.alike hK⟩⟩, hS.F ht⟩) hS.2.2 hdg
end IA3
