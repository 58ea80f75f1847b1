/-! THE WHOLE STEP, AND CONTRACTS OUT OF THE PURE MACHINE -/
/-- a word of the list by its place -/
abbrev ia_wd (Ts : List Cond) (i : Nat) (x : Cond) : Bool := decide (Ts[i]? = some x)
theorem ia_wd_mem {Ts : List Cond} {i : Nat} {x : Cond} (h : Ts[i]? = some x) : x ∈ Ts := List.mem_of_getElem? h
/-- an entry of a table is as the class file and the words say -/
def ia_okI (Ts : List Cond) (Ns : List ia_N) (cl : List vw_C) (MT : List ia_M) (M : ia_M) (e : ia_E) : Bool :=
  match e with
  | (pc, ins, len, a, b, wi, v, ts) =>
  match ins with
  | .aload_n _ => Nat.beq len 1
  | .iload_n _ => Nat.beq len 1
  | .lload_n _ => Nat.beq len 1
  | .dload_n _ => Nat.beq len 1
  | .aload _ => Nat.beq len 2
  | .iload _ => Nat.beq len 2
  | .lload _ => Nat.beq len 2
  | .astore_n k => Nat.beq len 1 && decide (k.val < M.2.2.2.1)
  | .istore_n k => Nat.beq len 1 && decide (k.val < M.2.2.2.1)
  | .astore k => Nat.beq len 2 && decide (k < M.2.2.2.1)
  | .istore k => Nat.beq len 2 && decide (k < M.2.2.2.1)
  | .lstore_n k => Nat.beq len 1 && decide (k.val + 1 < M.2.2.2.1)
  | .dstore_n k => Nat.beq len 1 && decide (k.val + 1 < M.2.2.2.1)
  | .lstore k => Nat.beq len 2 && decide (k + 1 < M.2.2.2.1)
  | .iinc k n => Nat.beq len 3 && decide (k < M.2.2.2.1) && decide (v = .int (Int32.ofInt n))
  | .iconst n => Nat.beq len 1 && decide (v = .int (Int32.ofInt n))
  | .bipush n => Nat.beq len 2 && decide (v = .int (Int8.ofInt n).toInt32)
  | .sipush n => Nat.beq len 3 && decide (v = .int (Int16.ofInt n).toInt32)
  | .lconst n => Nat.beq len 1 && decide (v = .long (Int64.ofNat n.val))
  | .dconst n => Nat.beq len 1 && decide (n = 0)
  | .ldc2_w i => Nat.beq len 3 && (match v with
    | .long x => ia_wd Ts wi (.constantLong M.2.1.cls i x)
    | .double x => ia_wd Ts wi (.constantDouble M.2.1.cls i x)
    | _ => false)
  | .iadd => Nat.beq len 1
  | .isub => Nat.beq len 1
  | .imul => Nat.beq len 1
  | .irem => Nat.beq len 1
  | .iand => Nat.beq len 1
  | .ixor => Nat.beq len 1
  | .ishr => Nat.beq len 1
  | .ladd => Nat.beq len 1
  | .lsub => Nat.beq len 1
  | .lmul => Nat.beq len 1
  | .land => Nat.beq len 1
  | .lor => Nat.beq len 1
  | .lneg => Nat.beq len 1
  | .lshl => Nat.beq len 1
  | .lcmp => Nat.beq len 1
  | .dadd => Nat.beq len 1
  | .dmul => Nat.beq len 1
  | .ddiv => Nat.beq len 1
  | .dneg => Nat.beq len 1
  | .i2l => Nat.beq len 1
  | .i2b => Nat.beq len 1
  | .i2d => Nat.beq len 1
  | .l2d => Nat.beq len 1
  | .d2l => Nat.beq len 1
  | .dup => Nat.beq len 1
  | .dup2 => Nat.beq len 1
  | .iaload => Nat.beq len 1
  | .baload => Nat.beq len 1
  | .laload => Nat.beq len 1
  | .iastore => Nat.beq len 1
  | .bastore => Nat.beq len 1
  | .lastore => Nat.beq len 1
  | .arraylength => Nat.beq len 1
  | .aaload => Nat.beq len 1
  | .dcmp _ => Nat.beq len 1
  | .goto off => Nat.beq len 3 && decide ((pc : Int) + off = (a : Int))
  | .if_icmp _ off => Nat.beq len 3 && decide ((pc : Int) + off = (a : Int))
  | .ifCond _ off => Nat.beq len 3 && decide ((pc : Int) + off = (a : Int))
  | .tableswitch dflt lo hi offs => decide ((pc : Int) + dflt = (a : Int)) && offs.toList.all (fun o => decide (0 ≤ (pc : Int) + o)) && decide (-2 ^ 31 ≤ lo) && decide (hi + 1 ≤ 2 ^ 31) && decide (lo + offs.toList.length = hi + 1) && decide (ts = ia_ts pc lo offs.toList)
  | .lookupswitch dflt ps => decide ((pc : Int) + dflt = (a : Int)) && (ps.toList.zip (ps.toList.drop 1)).all (fun (a, next) => a.1 < next.1) && ps.toList.all (fun o => decide (0 ≤ (pc : Int) + o.2) && decide (-2 ^ 31 ≤ o.1) && decide (o.1 < 2 ^ 31)) && decide (ts = ia_lt pc ps.toList)
  | .getfield i => Nat.beq len 3 && (match cl[a]? with
    | some q => decide (b < q.2.2) && (ia_wd Ts wi (.fieldLink M.2.1.cls i (q.2.1 b).1 (q.2.1 b).2.1 (q.2.1 b).2.2.1) || decide (Ns[wi]? = some (M.2.1.cls, i, (q.2.1 b).1, (q.2.1 b).2.1, (q.2.1 b).2.2.1, "OffsetBook")))
    | none => false)
  | .putfield i => Nat.beq len 3 && (match cl[a]? with
    | some q => decide (b < q.2.2) && decide ((q.2.1 b).2.2.2 = false) && (ia_wd Ts wi (.fieldLink M.2.1.cls i (q.2.1 b).1 (q.2.1 b).2.1 (q.2.1 b).2.2.1) || decide (Ns[wi]? = some (M.2.1.cls, i, (q.2.1 b).1, (q.2.1 b).2.1, (q.2.1 b).2.2.1, "OffsetBook")))
    | none => false)
  | .invokevirtual i => Nat.beq len 3 && (match ia_meth MT a, v with
    | some M', .ref cj => (match cl[cj]? with
      | some q => decide (q.1 = M'.2.1.cls) && Nat.beq M'.2.2.2.2.2.1 b && ia_wd Ts wi (.methodLink M.2.1.cls i M'.2.1) && ia_wd Ts M'.2.2.2.2.2.2.2.1.2.2.1 (.instanceMethod M'.2.1) && ia_wd Ts M'.2.2.2.2.2.2.2.1.2.2.2 (.selects M'.2.1.cls M'.2.1 M'.2.1) && decide (M'.2.2.2.2.2.2.2.2.1 + 1 ≤ M.2.2.2.2.2.2.2.2.1) && decide (8 + (M'.2.2.2.1 + 11) + M'.2.2.2.2.2.2.2.2.2 ≤ M.2.2.2.2.2.2.2.2.2)
      | none => false)
    | _, _ => false)
  | .invokestatic i => Nat.beq len 3 && (match a with
    | 0 => ia_wd Ts wi (.methodLink M.2.1.cls i ⟨"java/lang/Double", "doubleToRawLongBits", "(D)J"⟩) && (match ts with
      | [(_, n), (_, t), (_, u)] => ia_wd Ts n (.native ⟨"java/lang/Double", "doubleToRawLongBits", "(D)J"⟩) && ia_wd Ts t (.static ⟨"java/lang/Double", "doubleToRawLongBits", "(D)J"⟩) && ia_wd Ts u (.initialized "java/lang/Double")
      | _ => false) && decide (1 ≤ M.2.2.2.2.2.2.2.2.1) && decide (8 + 15 ≤ M.2.2.2.2.2.2.2.2.2)
    | 1 => ia_wd Ts wi (.methodLink M.2.1.cls i arraycopyName) && (match ts with
      | [(_, n), (_, t), (_, u)] => ia_wd Ts n (.native arraycopyName) && ia_wd Ts t (.static arraycopyName) && ia_wd Ts u (.initialized "java/lang/System")
      | _ => false) && decide (1 ≤ M.2.2.2.2.2.2.2.2.1) && decide (8 + (nativeFrameWords "java/lang/System" "arraycopy" 5 + 11) ≤ M.2.2.2.2.2.2.2.2.2)
    | 2 => ia_wd Ts wi (.methodLink M.2.1.cls i Lib.MathLoose.max_long.x) && (match ts with
      | [(_, n), (_, t), (_, u)] => ia_wd Ts n (.code Lib.MathLoose.max_long.x Lib.MathLoose.max_long.code 4 (some .long)) && ia_wd Ts t (.static Lib.MathLoose.max_long.x) && ia_wd Ts u (.initialized "java/lang/Math")
      | _ => false) && decide (1 ≤ M.2.2.2.2.2.2.2.2.1) && decide (8 + 15 ≤ M.2.2.2.2.2.2.2.2.2)
    | 3 => ia_wd Ts wi (.methodLink M.2.1.cls i Lib.MathLoose.min_long.x) && (match ts with
      | [(_, n), (_, t), (_, u)] => ia_wd Ts n (.code Lib.MathLoose.min_long.x Lib.MathLoose.min_long.code 4 (some .long)) && ia_wd Ts t (.static Lib.MathLoose.min_long.x) && ia_wd Ts u (.initialized "java/lang/Math")
      | _ => false) && decide (1 ≤ M.2.2.2.2.2.2.2.2.1) && decide (8 + 15 ≤ M.2.2.2.2.2.2.2.2.2)
    | 4 => ia_wd Ts wi (.methodLink M.2.1.cls i Lib.MathLoose.abs_long.x) && (match ts with
      | [(_, n), (_, t), (_, u)] => ia_wd Ts n (.code Lib.MathLoose.abs_long.x Lib.MathLoose.abs_long.code 2 (some .long)) && ia_wd Ts t (.static Lib.MathLoose.abs_long.x) && ia_wd Ts u (.initialized "java/lang/Math")
      | _ => false) && decide (1 ≤ M.2.2.2.2.2.2.2.2.1) && decide (8 + 15 ≤ M.2.2.2.2.2.2.2.2.2)
    | 5 => ia_wd Ts wi (.methodLink M.2.1.cls i Lib.Math.min.name) && (match ts with
      | [(_, n), (_, t), (_, u)] => ia_wd Ts n (.code Lib.Math.min.name Lib.Math.min.code 2 (some .int)) && ia_wd Ts t (.static Lib.Math.min.name) && ia_wd Ts u (.initialized "java/lang/Math")
      | _ => false) && decide (1 ≤ M.2.2.2.2.2.2.2.2.1) && decide (8 + 15 ≤ M.2.2.2.2.2.2.2.2.2)
    | a + 6 => match ia_meth MT a with
      | some M' => Nat.beq M'.2.2.2.2.2.1 b && ia_wd Ts wi (.methodLink M.2.1.cls i M'.2.1) && ia_wd Ts M'.2.2.2.2.2.2.2.1.2.2.1 (.static M'.2.1) && decide (M'.2.2.2.2.2.2.2.2.1 + 1 ≤ M.2.2.2.2.2.2.2.2.1) && decide (8 + (M'.2.2.2.1 + 11) + M'.2.2.2.2.2.2.2.2.2 ≤ M.2.2.2.2.2.2.2.2.2)
      | none => false)
  | .ireturn => Nat.beq len 1 && (match a with
    | 0 => decide (M.2.2.2.2.1 = some .int)
    | 1 => decide (M.2.2.2.2.1 = some .boolean)
    | _ => false)
  | .lreturn => Nat.beq len 1 && decide (M.2.2.2.2.1 = some .long)
  | .dreturn => Nat.beq len 1 && decide (M.2.2.2.2.1 = some .double)
  | .return_ => Nat.beq len 1 && decide (M.2.2.2.2.1 = none)
  | _ => false
def ia_okE (Ts : List Cond) (Ns : List ia_N) (cl : List vw_C) (MT : List ia_M) (M : ia_M) (e : ia_E) : Bool := decide (decode M.2.2.1 e.1 = .ok (e.2.1, e.2.2.1)) && ia_okI Ts Ns cl MT M e
/-- a method's own words -/
def ia_okM (Ts : List Cond) (M : ia_M) : Bool := ia_wd Ts M.2.2.2.2.2.2.2.1.1 (Cond.code M.2.1 M.2.2.1 M.2.2.2.1 M.2.2.2.2.1) && ia_wd Ts M.2.2.2.2.2.2.2.1.2.1 (.initialized M.2.1.cls) && decide (M.2.1.cls ≠ "java/lang/invoke/MethodHandle" ∧ M.2.1.cls ≠ "java/lang/invoke/VarHandle") && decide ((parseMethodDescriptor M.2.1.desc).map (fun d => d.parameters.length) = some M.2.2.2.2.2.1) && plainName M.2.1.cls
/-- the whole list is as the class files and the words say -/
def ia_OK (Ts : List Cond) (Ns : List ia_N) (cl : List vw_C) (MT : List ia_M) : Prop := ∀ (y : Nat) (M : ia_M), ia_meth MT y = some M → ia_okM Ts M = true ∧ ∀ ch ∈ M.2.2.2.2.2.2.1, ∀ e ∈ ch, ia_okE Ts Ns cl MT M e = true
/-- shapes fit the classes -/
def ia_Sok (Sh : List ia_C) (ty0 : Nat → Nat → FieldType) : Prop := (∀ x ci ks b, ia_at? Sh x = some (.inr (.inl (ci, ks))) → (ia_kind ks b = some (.inr false) → ty0 ci b = .int) ∧ (ia_kind ks b = some (.inr true) → ty0 ci b = .long)) ∧ (∀ x C l, ia_at? Sh x = some (.inr (.inr (C, l))) → l.length < 2 ^ 31) ∧ ia_Z Sh
theorem ia_find_spec {pc : Nat} : ∀ {ch : List ia_E} {e : ia_E}, ia_find pc ch = some e → e.1 = pc ∧ e ∈ ch
  | [], _, h => by cases h
  | x :: t, e, h => by
    simp only [ia_find] at h
    cases hb : Nat.beq x.1 pc with
    | true => rw [hb] at h; cases h; exact ⟨ia_beq hb, List.mem_cons_self⟩
    | false =>
      rw [hb] at h
      obtain ⟨h1, h2⟩ := ia_find_spec (ch := t) h
      exact ⟨h1, List.mem_cons_of_mem _ h2⟩
theorem ia_piece_mem : ∀ {K : List (List ia_E)} {n : Nat} {e : ia_E}, e ∈ ia_piece K n → ∃ ch ∈ K, e ∈ ch
  | [], _, _, h => by cases h
  | c :: _, 0, _, h => ⟨c, List.mem_cons_self, h⟩
  | _ :: t, n + 1, _, h => by
    obtain ⟨ch, h1, h2⟩ := ia_piece_mem (K := t) (n := n) h
    exact ⟨ch, List.mem_cons_of_mem _ h1, h2⟩
section IA4
variable {p : Program} {l : Launch} {e : Env} {R : Room} {s : State} {m : MethodId} {args : Array Value} {below : List Frame} {meth : Method} {c : Code}
variable {D : va_G} {cl : List vw_C} {A : Nat → Prop} {tys : List (ClassId × FieldType)} {Sh : List ia_C} {ad : Nat → Nat} {ca : Nat → ClassId}
set_option maxHeartbeats 4000000 in
theorem ia_step_ok {Ts : List Cond} {Ns : List ia_N} {MT : List ia_M} {M : ia_M} {ty0 : Nat → Nat → FieldType} {y0 : Nat} {r0 : Option Value} {h1 : ia_H} (hOK : ia_OK Ts Ns cl MT) (hM0 : ia_meth MT y0 = some M) (hG : Ts.all goodWord = true) (hCl : ia_Cl Ts cl ty0) (hSok : ia_Sok Sh ty0) (hT : ia_T Sh ca tys)
    (hx : p.tables.exec = Jvm.exec) (hb : c.code = M.2.2.1) (hml : c.maxLocals = M.2.2.2.1) (hr : meth.sig.returnType = M.2.2.2.2.1) (hlocks : meth.locks = false) (hts : ∀ w ∈ Ts, w.before args s = true) (hown : s.vm.findClass M.2.1.cls = some m.cls) (hK : va_K D cl tys s) (hNs : ∀ w ∈ Ns, va_Nw (ia_nw w) s) (hA : ∀ q, s.heap.size ≤ q → A q)
    (t : ia_S) (h : ia_pre (ia_Mt l Ts Ns MT D cl tys Sh ad ca) (fun r1 h2 => r1 = r0 ∧ h2 = h1) (ia_X p l e (ia_rm M) s m args below meth c (MQ below (ia_Post D cl tys Sh ad ca A r0 h1) args s 0 0 A) 0 0 D cl A s.heap Sh ad ca M.2.2.2.1) (ia_step Sh M.2.2.2.2.2.2.1 t)) :
    ia_X p l e (ia_rm M) s m args below meth c (MQ below (ia_Post D cl tys Sh ad ca A r0 h1) args s 0 0 A) 0 0 D cl A s.heap Sh ad ca M.2.2.2.1 t := by
  obtain ⟨pc, ls, st, hh⟩ := t
  simp only [ia_step] at h
  split at h <;> first | exact h.elim | skip
  rename_i en hfind
  obtain ⟨hpc, hmem⟩ := ia_find_spec hfind
  obtain ⟨ch, hch, hech⟩ := ia_piece_mem hmem
  have hok := (hOK y0 M hM0).2 ch hch en hech
  obtain ⟨pc', ins, len, a, b, wi, v, ts⟩ := en
  simp only at hpc
  subst hpc
  simp only [ia_okE, Bool.and_eq_true, decide_eq_true_eq] at hok
  obtain ⟨hdg, hok⟩ := hok
  cases ins
  case aload_n =>
    have hl := ia_beq (by simpa only [ia_okI] using hok)
    subst hl
    exact ia_s_aload_n hx hb hdg h
  case iload_n =>
    have hl := ia_beq (by simpa only [ia_okI] using hok)
    subst hl
    exact ia_s_iload_n hx hb hdg h
  case lload_n =>
    have hl := ia_beq (by simpa only [ia_okI] using hok)
    subst hl
    exact ia_s_lload_n hx hb hdg h
  case dload_n =>
    have hl := ia_beq (by simpa only [ia_okI] using hok)
    subst hl
    exact ia_s_dload_n hx hb hdg h
  case aload =>
    have hl := ia_beq (by simpa only [ia_okI] using hok)
    subst hl
    exact ia_s_aload hx hb hdg h
  case iload =>
    have hl := ia_beq (by simpa only [ia_okI] using hok)
    subst hl
    exact ia_s_iload hx hb hdg h
  case lload =>
    have hl := ia_beq (by simpa only [ia_okI] using hok)
    subst hl
    exact ia_s_lload hx hb hdg h
  case astore_n =>
    simp only [ia_okI, Bool.and_eq_true, decide_eq_true_eq] at hok
    obtain ⟨hl, hk⟩ := hok
    have hl := ia_beq hl
    subst hl
    exact ia_s_astore_n hx hb hk hdg h
  case istore_n =>
    simp only [ia_okI, Bool.and_eq_true, decide_eq_true_eq] at hok
    obtain ⟨hl, hk⟩ := hok
    have hl := ia_beq hl
    subst hl
    exact ia_s_istore_n hx hb hk hdg h
  case astore =>
    simp only [ia_okI, Bool.and_eq_true, decide_eq_true_eq] at hok
    obtain ⟨hl, hk⟩ := hok
    have hl := ia_beq hl
    subst hl
    exact ia_s_astore hx hb hk hdg h
  case istore =>
    simp only [ia_okI, Bool.and_eq_true, decide_eq_true_eq] at hok
    obtain ⟨hl, hk⟩ := hok
    have hl := ia_beq hl
    subst hl
    exact ia_s_istore hx hb hk hdg h
  case lstore_n =>
    simp only [ia_okI, Bool.and_eq_true, decide_eq_true_eq] at hok
    obtain ⟨hl, hk⟩ := hok
    have hl := ia_beq hl
    subst hl
    exact ia_s_lstore_n hx hb hk hdg h
  case dstore_n =>
    simp only [ia_okI, Bool.and_eq_true, decide_eq_true_eq] at hok
    obtain ⟨hl, hk⟩ := hok
    have hl := ia_beq hl
    subst hl
    exact ia_s_dstore_n hx hb hk hdg h
  case lstore =>
    simp only [ia_okI, Bool.and_eq_true, decide_eq_true_eq] at hok
    obtain ⟨hl, hk⟩ := hok
    have hl := ia_beq hl
    subst hl
    exact ia_s_lstore hx hb hk hdg h
  case iinc =>
    simp only [ia_okI, Bool.and_eq_true, decide_eq_true_eq] at hok
    obtain ⟨⟨hl, hk⟩, hv⟩ := hok
    have hl := ia_beq hl
    subst hl
    subst hv
    exact ia_s_iinc hx hb hk hdg h
  case iconst =>
    simp only [ia_okI, Bool.and_eq_true, decide_eq_true_eq] at hok
    obtain ⟨hl, hv⟩ := hok
    have hl := ia_beq hl
    subst hl
    subst hv
    exact ia_s_iconst hx hb hdg h
  case bipush =>
    simp only [ia_okI, Bool.and_eq_true, decide_eq_true_eq] at hok
    obtain ⟨hl, hv⟩ := hok
    have hl := ia_beq hl
    subst hl
    subst hv
    exact ia_s_bipush hx hb hdg h
  case sipush =>
    simp only [ia_okI, Bool.and_eq_true, decide_eq_true_eq] at hok
    obtain ⟨hl, hv⟩ := hok
    have hl := ia_beq hl
    subst hl
    subst hv
    exact ia_s_sipush hx hb hdg h
  case lconst =>
    simp only [ia_okI, Bool.and_eq_true, decide_eq_true_eq] at hok
    obtain ⟨hl, hv⟩ := hok
    have hl := ia_beq hl
    subst hl
    subst hv
    exact ia_s_lconst hx hb hdg h
  case dconst =>
    simp only [ia_okI, Bool.and_eq_true, decide_eq_true_eq] at hok
    obtain ⟨hl, hk⟩ := hok
    have hl := ia_beq hl
    subst hl
    subst hk
    exact ia_s_dconst hx hb hdg h
  case ldc2_w =>
    simp only [ia_okI, Bool.and_eq_true, decide_eq_true_eq] at hok
    obtain ⟨hl, hk⟩ := hok
    have hl := ia_beq hl
    subst hl
    cases v
    case long x => exact ia_s_ldc2l hx hb hown (hts _ (ia_wd_mem (of_decide_eq_true hk))) hdg h
    case double x => exact ia_s_ldc2d hx hb hown (hts _ (ia_wd_mem (of_decide_eq_true hk))) hdg h
    all_goals (cases hk)
  case iadd =>
    have hl := ia_beq (by simpa only [ia_okI] using hok)
    subst hl
    exact ia_s_iadd hx hb hdg h
  case isub =>
    have hl := ia_beq (by simpa only [ia_okI] using hok)
    subst hl
    exact ia_s_isub hx hb hdg h
  case imul =>
    have hl := ia_beq (by simpa only [ia_okI] using hok)
    subst hl
    exact ia_s_imul hx hb hdg h
  case irem =>
    have hl := ia_beq (by simpa only [ia_okI] using hok)
    subst hl
    exact ia_s_irem hx hb hdg h
  case iand =>
    have hl := ia_beq (by simpa only [ia_okI] using hok)
    subst hl
    exact ia_s_iand hx hb hdg h
  case ixor =>
    have hl := ia_beq (by simpa only [ia_okI] using hok)
    subst hl
    exact ia_s_ixor hx hb hdg h
  case ishr =>
    have hl := ia_beq (by simpa only [ia_okI] using hok)
    subst hl
    exact ia_s_ishr hx hb hdg h
  case ladd =>
    have hl := ia_beq (by simpa only [ia_okI] using hok)
    subst hl
    exact ia_s_ladd hx hb hdg h
  case lsub =>
    have hl := ia_beq (by simpa only [ia_okI] using hok)
    subst hl
    exact ia_s_lsub hx hb hdg h
  case lmul =>
    have hl := ia_beq (by simpa only [ia_okI] using hok)
    subst hl
    exact ia_s_lmul hx hb hdg h
  case land =>
    have hl := ia_beq (by simpa only [ia_okI] using hok)
    subst hl
    exact ia_s_land hx hb hdg h
  case lor =>
    have hl := ia_beq (by simpa only [ia_okI] using hok)
    subst hl
    exact ia_s_lor hx hb hdg h
  case lneg =>
    have hl := ia_beq (by simpa only [ia_okI] using hok)
    subst hl
    exact ia_s_lneg hx hb hdg h
  case lshl =>
    have hl := ia_beq (by simpa only [ia_okI] using hok)
    subst hl
    exact ia_s_lshl hx hb hdg h
  case lcmp =>
    have hl := ia_beq (by simpa only [ia_okI] using hok)
    subst hl
    exact ia_s_lcmp hx hb hdg h
  case dadd =>
    have hl := ia_beq (by simpa only [ia_okI] using hok)
    subst hl
    exact ia_s_dadd hx hb hdg h
  case dmul =>
    have hl := ia_beq (by simpa only [ia_okI] using hok)
    subst hl
    exact ia_s_dmul hx hb hdg h
  case ddiv =>
    have hl := ia_beq (by simpa only [ia_okI] using hok)
    subst hl
    exact ia_s_ddiv hx hb hdg h
  case dneg =>
    have hl := ia_beq (by simpa only [ia_okI] using hok)
    subst hl
    exact ia_s_dneg hx hb hdg h
  case i2l =>
    have hl := ia_beq (by simpa only [ia_okI] using hok)
    subst hl
    exact ia_s_i2l hx hb hdg h
  case i2b =>
    have hl := ia_beq (by simpa only [ia_okI] using hok)
    subst hl
    exact ia_s_i2b hx hb hdg h
  case i2d =>
    have hl := ia_beq (by simpa only [ia_okI] using hok)
    subst hl
    exact ia_s_i2d hx hb hdg h
  case l2d =>
    have hl := ia_beq (by simpa only [ia_okI] using hok)
    subst hl
    exact ia_s_l2d hx hb hdg h
  case d2l =>
    have hl := ia_beq (by simpa only [ia_okI] using hok)
    subst hl
    exact ia_s_d2l hx hb hdg h
  case dup =>
    have hl := ia_beq (by simpa only [ia_okI] using hok)
    subst hl
    exact ia_s_dup hx hb hdg h
  case dup2 =>
    have hl := ia_beq (by simpa only [ia_okI] using hok)
    subst hl
    exact ia_s_dup2 hx hb hdg h
  case iaload =>
    have hl := ia_beq (by simpa only [ia_okI] using hok)
    subst hl
    exact ia_s_iaload hx hb hK hT hSok.2.2 hdg h
  case baload =>
    have hl := ia_beq (by simpa only [ia_okI] using hok)
    subst hl
    exact ia_s_baload hx hb hK hT hSok.2.2 hdg h
  case laload =>
    have hl := ia_beq (by simpa only [ia_okI] using hok)
    subst hl
    exact ia_s_laload hx hb hK hT hSok.2.2 hdg h
  case iastore =>
    have hl := ia_beq (by simpa only [ia_okI] using hok)
    subst hl
    exact ia_s_iastore hx hb hK hT hSok.2.2 hdg h
  case bastore =>
    have hl := ia_beq (by simpa only [ia_okI] using hok)
    subst hl
    exact ia_s_bastore hx hb hK hT hSok.2.2 hdg h
  case lastore =>
    have hl := ia_beq (by simpa only [ia_okI] using hok)
    subst hl
    exact ia_s_lastore hx hb hK hT hSok.2.2 hdg h
  case arraylength =>
    have hl := ia_beq (by simpa only [ia_okI] using hok)
    subst hl
    exact ia_s_arraylength hx hb hK hT hSok.2.2 hdg h
  case aaload =>
    have hl := ia_beq (by simpa only [ia_okI] using hok)
    subst hl
    exact ia_s_aaload hx hb hK hT hSok.2.1 hdg h
  case dcmp =>
    have hl := ia_beq (by simpa only [ia_okI] using hok)
    subst hl
    exact ia_s_dcmp hx hb hdg h
  case goto =>
    simp only [ia_okI, Bool.and_eq_true, decide_eq_true_eq] at hok
    obtain ⟨hl, hk⟩ := hok
    have hl := ia_beq hl
    subst hl
    exact ia_s_goto hx hb hk hdg h
  case if_icmp =>
    simp only [ia_okI, Bool.and_eq_true, decide_eq_true_eq] at hok
    rename_i cnd off
    obtain ⟨hl, hk⟩ := hok
    have hl := ia_beq hl
    subst hl
    cases cnd
    · exact ia_s_icmp_eq hx hb hk hdg h
    · exact ia_s_icmp_ne hx hb hk hdg h
    · exact ia_s_icmp_lt hx hb hk hdg h
    · exact ia_s_icmp_ge hx hb hk hdg h
    · exact ia_s_icmp_gt hx hb hk hdg h
    · exact ia_s_icmp_le hx hb hk hdg h
  case ifCond =>
    simp only [ia_okI, Bool.and_eq_true, decide_eq_true_eq] at hok
    rename_i cnd off
    obtain ⟨hl, hk⟩ := hok
    have hl := ia_beq hl
    subst hl
    cases cnd
    · exact ia_s_if_eq hx hb hk hdg h
    · exact ia_s_if_ne hx hb hk hdg h
    · exact ia_s_if_lt hx hb hk hdg h
    · exact ia_s_if_ge hx hb hk hdg h
    · exact ia_s_if_gt hx hb hk hdg h
    · exact ia_s_if_le hx hb hk hdg h
  case tableswitch =>
    simp only [ia_okI, Bool.and_eq_true, decide_eq_true_eq] at hok
    obtain ⟨⟨⟨⟨⟨k1, k2⟩, k3⟩, k4⟩, k5⟩, k6⟩ := hok
    exact ia_s_tableswitch hx hb k1 (fun o ho => of_decide_eq_true (List.all_eq_true.mp k2 o ho)) k3 k4 k5 k6 hdg h
  case lookupswitch =>
    simp only [ia_okI, Bool.and_eq_true, decide_eq_true_eq] at hok
    obtain ⟨⟨⟨k1, k2⟩, k3⟩, k4⟩ := hok
    exact ia_s_lookupswitch hx hb k1 k2 (fun o ho => by have q := List.all_eq_true.mp k3 o ho; simp only [Bool.and_eq_true, decide_eq_true_eq] at q; exact ⟨q.1.1, q.1.2, q.2⟩) k4 hdg h
  case getfield =>
    simp only [ia_okI, Bool.and_eq_true, decide_eq_true_eq] at hok
    obtain ⟨hl, hk⟩ := hok
    have hl := ia_beq hl
    subst hl
    split at hk
    · rename_i q hq
      simp only [Bool.and_eq_true, Bool.or_eq_true, decide_eq_true_eq] at hk
      rcases hk.2 with hw | hw
      · exact ia_s_getfield hx hb hts hown hK hCl hq hk.1 (hts _ (ia_wd_mem hw)) hdg h
      · exact ia_s_getfieldN hx hb hts hown hK hCl hq hk.1 (va_Nw.use rfl (hNs _ (List.mem_of_getElem? hw))) hdg h
    · cases hk
  case putfield =>
    simp only [ia_okI, Bool.and_eq_true, decide_eq_true_eq] at hok
    obtain ⟨hl, hk⟩ := hok
    have hl := ia_beq hl
    subst hl
    split at hk
    · rename_i q hq
      simp only [Bool.and_eq_true, Bool.or_eq_true, decide_eq_true_eq] at hk
      rcases hk.2 with hw | hw
      · exact ia_s_putfield hx hb hts hown hK hCl hq hk.1.1 (hts _ (ia_wd_mem hw)) hk.1.2 (fun x ci ks hc hci => by subst hci; exact hSok.1 x ci ks b hc) hdg h
      · exact ia_s_putfieldN hx hb hts hown hK hCl hq hk.1.1 (va_Nw.use rfl (hNs _ (List.mem_of_getElem? hw))) hk.1.2 (fun x ci ks hc hci => by subst hci; exact hSok.1 x ci ks b hc) hdg h
    · cases hk
  case invokevirtual =>
    simp only [ia_okI, Bool.and_eq_true, decide_eq_true_eq] at hok
    obtain ⟨hl, hk⟩ := hok
    have hl := ia_beq hl
    subst hl
    split at hk
    · rename_i M2 cj hM
      have hoM := (hOK _ _ hM).1
      simp only [ia_okM, Bool.and_eq_true, decide_eq_true_eq] at hoM
      obtain ⟨⟨⟨⟨o1, o2⟩, o3⟩, o4⟩, o5⟩ := hoM
      split at hk
      · rename_i q hq
        simp only [Bool.and_eq_true, decide_eq_true_eq] at hk
        obtain ⟨⟨⟨⟨⟨⟨k1, k2⟩, k3⟩, k4⟩, k5⟩, k6⟩, k7⟩ := hk
        have k2 := ia_beq k2
        exact ia_s_invokevirtual hx hb hNs hml hts hown hG hK hA ⟨Nat.le_refl _, Nat.le_refl _⟩ (ia_wd_mem o1) (ia_wd_mem o2) o3 (by rw [o4, k2]) (ia_wd_mem k3) ⟨k6, k7⟩ hM (ia_wd_mem k4) (ia_wd_mem k5) hq k1 hdg h
      · cases hk
    · cases hk
  case invokestatic =>
    simp only [ia_okI, Bool.and_eq_true, decide_eq_true_eq] at hok
    obtain ⟨hl, hk⟩ := hok
    have hl := ia_beq hl
    subst hl
    match a, hk, h with
    | 0, hk, h =>
      simp only [Bool.and_eq_true, decide_eq_true_eq] at hk
      obtain ⟨⟨⟨k1, k2⟩, k3⟩, k4⟩ := hk
      split at k2
      · simp only [Bool.and_eq_true, decide_eq_true_eq] at k2
        obtain ⟨⟨j1, j2⟩, j3⟩ := k2
        exact ia_s_d2raw hx hb hml hown (hts _ (ia_wd_mem k1)) (hts _ (ia_wd_mem j1)) (hts _ (ia_wd_mem j2)) (hts _ (ia_wd_mem j3)) k3 k4 hdg h
      · cases k2
    | 1, hk, h =>
      simp only [Bool.and_eq_true, decide_eq_true_eq] at hk
      obtain ⟨⟨⟨k1, k2⟩, k3⟩, k4⟩ := hk
      split at k2
      · simp only [Bool.and_eq_true, decide_eq_true_eq] at k2
        obtain ⟨⟨j1, j2⟩, j3⟩ := k2
        exact ia_s_arraycopy hx hb hml hown hK hT (hts _ (ia_wd_mem k1)) (hts _ (ia_wd_mem j1)) (hts _ (ia_wd_mem j2)) (hts _ (ia_wd_mem j3)) k3 k4 hdg h
      · cases k2
    | 2, hk, h =>
      simp only [Bool.and_eq_true, decide_eq_true_eq] at hk
      obtain ⟨⟨⟨k1, k2⟩, k3⟩, k4⟩ := hk
      split at k2
      · simp only [Bool.and_eq_true, decide_eq_true_eq] at k2
        obtain ⟨⟨j1, j2⟩, j3⟩ := k2
        exact ia_s_max_long hx hb hml hown (hts _ (ia_wd_mem k1)) (hts _ (ia_wd_mem j1)) (hts _ (ia_wd_mem j2)) (hts _ (ia_wd_mem j3)) k3 k4 ⟨Nat.le_refl _, Nat.le_refl _⟩ hdg h
      · cases k2
    | 3, hk, h =>
      simp only [Bool.and_eq_true, decide_eq_true_eq] at hk
      obtain ⟨⟨⟨k1, k2⟩, k3⟩, k4⟩ := hk
      split at k2
      · simp only [Bool.and_eq_true, decide_eq_true_eq] at k2
        obtain ⟨⟨j1, j2⟩, j3⟩ := k2
        exact ia_s_min_long hx hb hml hown (hts _ (ia_wd_mem k1)) (hts _ (ia_wd_mem j1)) (hts _ (ia_wd_mem j2)) (hts _ (ia_wd_mem j3)) k3 k4 ⟨Nat.le_refl _, Nat.le_refl _⟩ hdg h
      · cases k2
    | 4, hk, h =>
      simp only [Bool.and_eq_true, decide_eq_true_eq] at hk
      obtain ⟨⟨⟨k1, k2⟩, k3⟩, k4⟩ := hk
      split at k2
      · simp only [Bool.and_eq_true, decide_eq_true_eq] at k2
        obtain ⟨⟨j1, j2⟩, j3⟩ := k2
        exact ia_s_abs_long hx hb hml hown (hts _ (ia_wd_mem k1)) (hts _ (ia_wd_mem j1)) (hts _ (ia_wd_mem j2)) (hts _ (ia_wd_mem j3)) k3 k4 ⟨Nat.le_refl _, Nat.le_refl _⟩ hdg h
      · cases k2
    | 5, hk, h =>
      simp only [Bool.and_eq_true, decide_eq_true_eq] at hk
      obtain ⟨⟨⟨k1, k2⟩, k3⟩, k4⟩ := hk
      split at k2
      · simp only [Bool.and_eq_true, decide_eq_true_eq] at k2
        obtain ⟨⟨j1, j2⟩, j3⟩ := k2
        exact ia_s_min_int hx hb hml hown (hts _ (ia_wd_mem k1)) (hts _ (ia_wd_mem j1)) (hts _ (ia_wd_mem j2)) (hts _ (ia_wd_mem j3)) k3 k4 ⟨Nat.le_refl _, Nat.le_refl _⟩ hdg h
      · cases k2
    | a + 6, hk, h =>
      simp only at hk
      split at hk
      · rename_i M2 hM
        have hoM := (hOK _ _ hM).1
        simp only [ia_okM, Bool.and_eq_true, decide_eq_true_eq] at hoM
        obtain ⟨⟨⟨⟨o1, o2⟩, o3⟩, o4⟩, o5⟩ := hoM
        simp only [Bool.and_eq_true, decide_eq_true_eq] at hk
        obtain ⟨⟨⟨⟨k2, k3⟩, k4⟩, k6⟩, k7⟩ := hk
        have k2 := ia_beq k2
        exact ia_s_invokestatic hx hb hNs hml hts hown hG hK hA ⟨Nat.le_refl _, Nat.le_refl _⟩ (ia_wd_mem o1) (ia_wd_mem o2) o3 (by rw [o4, k2]) (ia_wd_mem k3) ⟨k6, k7⟩ hM (ia_wd_mem k4) hdg h
      · cases hk
  case ireturn =>
    simp only [ia_okI, Bool.and_eq_true, decide_eq_true_eq] at hok
    obtain ⟨hl, hk⟩ := hok
    have hl := ia_beq hl
    subst hl
    match a, hk, h with
    | 0, hk, h => exact ia_s_ireturn hx hb hlocks hK (by rw [hr]; exact of_decide_eq_true hk) hdg h
    | 1, hk, h => exact ia_s_zreturn hx hb hlocks hK (by rw [hr]; exact of_decide_eq_true hk) hdg h
    | n + 2, hk, h => cases hk
  case lreturn =>
    simp only [ia_okI, Bool.and_eq_true, decide_eq_true_eq] at hok
    obtain ⟨hl, hk⟩ := hok
    have hl := ia_beq hl
    subst hl
    exact ia_s_lreturn hx hb hlocks hK (by rw [hr]; exact hk) hdg h
  case dreturn =>
    simp only [ia_okI, Bool.and_eq_true, decide_eq_true_eq] at hok
    obtain ⟨hl, hk⟩ := hok
    have hl := ia_beq hl
    subst hl
    exact ia_s_dreturn hx hb hlocks hK (by rw [hr]; exact hk) hdg h
  case return_ =>
    simp only [ia_okI, Bool.and_eq_true, decide_eq_true_eq] at hok
    obtain ⟨hl, hk⟩ := hok
    have hl := ia_beq hl
    subst hl
    exact ia_s_return hx hb hlocks hK (by rw [hr]; exact hk) hdg h
  all_goals (exact absurd hok (by simp [ia_okI]))
theorem ia_args_len (ad : Nat → Nat) : ∀ as : List Value, (lg_sl (as.map (ia_v ad))).length = (ia_args as).length
  | [] => rfl
  | v :: vs => by
    have ih := ia_args_len ad vs
    have e : ∀ (x : Value) (xs : List Value), lg_sl (x :: xs) = (if x.category = 2 then [Slot.val x, Slot.second] else [Slot.val x]) ++ lg_sl xs := fun x xs => by simp [lg_sl]
    rw [List.map_cons, e, List.length_append, ih]
    cases v <;> simp [ia_v, Value.category, ia_args] <;> omega
theorem ia_args_mem (ad : Nat → Nat) (n : Nat) : ∀ (as : List Value) (i0 i : Nat) (v : Value), ia_get (ia_args as ++ List.replicate n none) i = some v → (i0 + i, ia_v ad v) ∈ lv_args i0 (as.map (ia_v ad))
  | [], i0, i, v, h => by
    simp only [ia_args, List.nil_append, ia_get_none] at h
    cases h
  | u :: us, i0, i, v, h => by
    have two : ∀ x : Value, x.category = 2 → ia_args (u :: us) = some x :: none :: ia_args us → u = x → (i0 + i, ia_v ad v) ∈ lv_args i0 ((u :: us).map (ia_v ad)) := by
      intro x hx he hu
      rw [he] at h
      simp only [List.map_cons, lv_args, ia_cat, hu, hx, if_true]
      match i, h with
      | 0, h => cases h; exact List.mem_cons_self
      | 1, h => cases h
      | i + 2, h => exact List.mem_cons_of_mem _ (by rw [show i0 + (i + 2) = i0 + 2 + i by omega]; exact ia_args_mem ad n us (i0 + 2) i v h)
    have one : ¬ u.category = 2 → ia_args (u :: us) = some u :: ia_args us → (i0 + i, ia_v ad v) ∈ lv_args i0 ((u :: us).map (ia_v ad)) := by
      intro hx he
      rw [he] at h
      simp only [List.map_cons, lv_args, ia_cat, hx, if_false]
      match i, h with
      | 0, h => cases h; exact List.mem_cons_self
      | i + 1, h => exact List.mem_cons_of_mem _ (by rw [show i0 + (i + 1) = i0 + 1 + i by omega]; exact ia_args_mem ad n us (i0 + 1) i v h)
    cases u with
    | long x => exact two _ rfl rfl rfl
    | double x => exact two _ rfl rfl rfl
    | int x => exact one (by simp [Value.category]) rfl
    | float x => exact one (by simp [Value.category]) rfl
    | ref x => exact one (by simp [Value.category]) rfl
    | null => exact one (by simp [Value.category]) rfl
    | retAddr x => exact one (by simp [Value.category]) rfl
set_option maxHeartbeats 4000000 in
/-- WHAT THE PURE MACHINE SAYS OF A METHOD IS ITS CONTRACT -/
theorem ia_sound {l : Launch} {Ts : List Cond} {Ns : List ia_N} {MT : List ia_M} {D : va_G} {cl : List vw_C} {tys : List (ClassId × FieldType)} {Sh : List ia_C} {ad : Nat → Nat} {ca : Nat → ClassId} {ty0 : Nat → Nat → FieldType} (hOK : ia_OK Ts Ns cl MT) (hG : Ts.all goodWord = true) (hCl : ia_Cl Ts cl ty0) (hSok : ia_Sok Sh ty0) (hT : ia_T Sh ca tys)
    {y : Nat} {as : List Value} {h : ia_H} {r : Option Value} {h' : ia_H} (hE : ia_Ev Sh MT y as h r h') : ia_Mt l Ts Ns MT D cl tys Sh ad ca y as h r h' := by
  refine hE (ia_Mt l Ts Ns MT D cl tys Sh ad ca) ?_
  intro y as h r h' M hM hn hRun M2 hM2 sz
  have e0 : M2 = M := Option.some.inj (hM2.symm.trans hM)
  subst e0
  have hoM := (hOK _ _ hM).1
  simp only [ia_okM, Bool.and_eq_true, decide_eq_true_eq] at hoM
  refine Met.ofW (cc := M2.2.2.1) (maxL := M2.2.2.2.1) (ret := M2.2.2.2.2.1) hoM.2 rfl ?_
  intro p e s m args below meth c s₁ B hml hv
  obtain ⟨rfl, hsz, hP, hK, hD0, hNs⟩ := hv
  have hts := atoms_spec (ws := ia_ws Ts M2) B.pre
  have hown : s.vm.findClass M2.2.1.cls = some m.cls := findClass_of_methodNamed B.named
  subst hsz
  have hD := hD0.self (sz := s.heap.size)
  have hA : ∀ q : Nat, s.heap.size ≤ q → va_A (ia_w ad ca h 0 Sh) s.heap.size q := fun q hq => Or.inr hq
  have key := hRun _ (ia_step_ok (p := p) (l := l) (e := e) (s := s) (m := m) (args := (as.map (ia_v ad)).toArray) (below := below) (meth := meth) (c := c) (A := va_A (ia_w ad ca h 0 Sh) s.heap.size) hOK hM hG hCl hSok hT B.exec B.bytes hml B.returns B.notSynchronized (fun w hw => hts w (List.mem_cons_of_mem _ hw)) hown hK hNs hA)
  have hln : (lg_sl (as.map (ia_v ad))).length ≤ M2.2.2.2.1 := by rw [ia_args_len]; exact hn
  have hl := lv_entry (as.map (ia_v ad)) (n := M2.2.2.2.1) hln
  rw [lg_entry_eq]
  exact key s.heap [] _ hP hD va_S.rf (ia_R_of (by simp [ia_enter]; omega) hl (fun q hq => by
    obtain ⟨v, hg, hv⟩ := ia_al_mem.mp hq
    have := ia_args_mem ad _ as 0 q.1 v hg
    rw [Nat.zero_add, ← hv] at this
    exact this))
end IA4
