/-! the machine of 05 for a frame of any room and end: the law's own -/
section IA5
variable {p : Program} {l : Launch} {e : Env} {R : Room} {s : State} {m : MethodId} {args : Array Value} {below : List Frame} {meth : Method} {c : Code} {Q : State → Prop} {cells slots : Nat}
variable {D : va_G} {cl : List vw_C} {A : Nat → Prop} {tys : List (ClassId × FieldType)} {H0 : Heap} {Sh : List ia_C} {ad : Nat → Nat} {ca : Nat → ClassId}
/-- no return -/
def lw_nr (e : ia_E) : Bool := match e.2.1 with
  | .ireturn => false
  | .lreturn => false
  | .dreturn => false
  | .return_ => false
  | _ => true
set_option maxHeartbeats 4000000 in
theorem ia_step_gen {Ts : List Cond} {Ns : List ia_N} {MT : List ia_M} {M : ia_M} {ty0 : Nat → Nat → FieldType} {Z : Option Value → ia_H → Prop} (hOKe : ∀ ch ∈ M.2.2.2.2.2.2.1, ∀ e ∈ ch, ia_okE Ts Ns cl MT M e = true ∧ lw_nr e = true) (hOK : ia_OK Ts Ns cl MT) (hG : Ts.all goodWord = true) (hCl : ia_Cl Ts cl ty0) (hSok : ia_Sok Sh ty0) (hT : ia_T Sh ca tys)
    (hx : p.tables.exec = Jvm.exec) (hb : c.code = M.2.2.1) (hml : c.maxLocals = M.2.2.2.1) (hts : ∀ w ∈ Ts, w.before args s = true) (hown : s.vm.findClass M.2.1.cls = some m.cls) (hK : va_K D cl tys s) (hNs : ∀ w ∈ Ns, va_Nw (ia_nw w) s) (hA : ∀ q, H0.size ≤ q → A q) (hcell : cells ≤ R.cells ∧ slots ≤ R.slots) (hRm : (ia_rm M).frames ≤ R.frames ∧ (ia_rm M).locals ≤ R.locals)
    (t : ia_S) (h : ia_pre (ia_Mt l Ts Ns MT D cl tys Sh ad ca) Z (ia_X p l e R s m args below meth c Q cells slots D cl A H0 Sh ad ca M.2.2.2.1) (ia_step Sh M.2.2.2.2.2.2.1 t)) :
    ia_X p l e R s m args below meth c Q cells slots D cl A H0 Sh ad ca M.2.2.2.1 t := by
  obtain ⟨pc, ls, st, hh⟩ := t
  simp only [ia_step] at h
  split at h <;> first | exact h.elim | skip
  rename_i en hfind
  obtain ⟨hpc, hmem⟩ := ia_find_spec hfind
  obtain ⟨ch, hch, hech⟩ := ia_piece_mem hmem
  obtain ⟨hok, hnr⟩ := hOKe ch hch en hech
  obtain ⟨pc', ins, len, a, b, wi, v, ts⟩ := en
  simp only at hpc
  subst hpc
  simp only [ia_okE, Bool.and_eq_true, decide_eq_true_eq] at hok
  obtain ⟨hdg, hok⟩ := hok
  cases ins
  case aload_n =>
    have hl := ia_beq (by simpa only [ia_okI] using hok)
    subst hl
    exact ia_s_aload_n hx hb hdg h
  case iload_n =>
    have hl := ia_beq (by simpa only [ia_okI] using hok)
    subst hl
    exact ia_s_iload_n hx hb hdg h
  case lload_n =>
    have hl := ia_beq (by simpa only [ia_okI] using hok)
    subst hl
    exact ia_s_lload_n hx hb hdg h
  case dload_n =>
    have hl := ia_beq (by simpa only [ia_okI] using hok)
    subst hl
    exact ia_s_dload_n hx hb hdg h
  case aload =>
    have hl := ia_beq (by simpa only [ia_okI] using hok)
    subst hl
    exact ia_s_aload hx hb hdg h
  case iload =>
    have hl := ia_beq (by simpa only [ia_okI] using hok)
    subst hl
    exact ia_s_iload hx hb hdg h
  case lload =>
    have hl := ia_beq (by simpa only [ia_okI] using hok)
    subst hl
    exact ia_s_lload hx hb hdg h
  case astore_n =>
    simp only [ia_okI, Bool.and_eq_true, decide_eq_true_eq] at hok
    obtain ⟨hl, hk⟩ := hok
    have hl := ia_beq hl
    subst hl
    exact ia_s_astore_n hx hb hk hdg h
  case istore_n =>
    simp only [ia_okI, Bool.and_eq_true, decide_eq_true_eq] at hok
    obtain ⟨hl, hk⟩ := hok
    have hl := ia_beq hl
    subst hl
    exact ia_s_istore_n hx hb hk hdg h
  case astore =>
    simp only [ia_okI, Bool.and_eq_true, decide_eq_true_eq] at hok
    obtain ⟨hl, hk⟩ := hok
    have hl := ia_beq hl
    subst hl
    exact ia_s_astore hx hb hk hdg h
  case istore =>
    simp only [ia_okI, Bool.and_eq_true, decide_eq_true_eq] at hok
    obtain ⟨hl, hk⟩ := hok
    have hl := ia_beq hl
    subst hl
    exact ia_s_istore hx hb hk hdg h
  case lstore_n =>
    simp only [ia_okI, Bool.and_eq_true, decide_eq_true_eq] at hok
    obtain ⟨hl, hk⟩ := hok
    have hl := ia_beq hl
    subst hl
    exact ia_s_lstore_n hx hb hk hdg h
  case dstore_n =>
    simp only [ia_okI, Bool.and_eq_true, decide_eq_true_eq] at hok
    obtain ⟨hl, hk⟩ := hok
    have hl := ia_beq hl
    subst hl
    exact ia_s_dstore_n hx hb hk hdg h
  case lstore =>
    simp only [ia_okI, Bool.and_eq_true, decide_eq_true_eq] at hok
    obtain ⟨hl, hk⟩ := hok
    have hl := ia_beq hl
    subst hl
    exact ia_s_lstore hx hb hk hdg h
  case iinc =>
    simp only [ia_okI, Bool.and_eq_true, decide_eq_true_eq] at hok
    obtain ⟨⟨hl, hk⟩, hv⟩ := hok
    have hl := ia_beq hl
    subst hl
    subst hv
    exact ia_s_iinc hx hb hk hdg h
  case iconst =>
    simp only [ia_okI, Bool.and_eq_true, decide_eq_true_eq] at hok
    obtain ⟨hl, hv⟩ := hok
    have hl := ia_beq hl
    subst hl
    subst hv
    exact ia_s_iconst hx hb hdg h
  case bipush =>
    simp only [ia_okI, Bool.and_eq_true, decide_eq_true_eq] at hok
    obtain ⟨hl, hv⟩ := hok
    have hl := ia_beq hl
    subst hl
    subst hv
    exact ia_s_bipush hx hb hdg h
  case sipush =>
    simp only [ia_okI, Bool.and_eq_true, decide_eq_true_eq] at hok
    obtain ⟨hl, hv⟩ := hok
    have hl := ia_beq hl
    subst hl
    subst hv
    exact ia_s_sipush hx hb hdg h
  case lconst =>
    simp only [ia_okI, Bool.and_eq_true, decide_eq_true_eq] at hok
    obtain ⟨hl, hv⟩ := hok
    have hl := ia_beq hl
    subst hl
    subst hv
    exact ia_s_lconst hx hb hdg h
  case dconst =>
    simp only [ia_okI, Bool.and_eq_true, decide_eq_true_eq] at hok
    obtain ⟨hl, hk⟩ := hok
    have hl := ia_beq hl
    subst hl
    subst hk
    exact ia_s_dconst hx hb hdg h
  case ldc2_w =>
    simp only [ia_okI, Bool.and_eq_true, decide_eq_true_eq] at hok
    obtain ⟨hl, hk⟩ := hok
    have hl := ia_beq hl
    subst hl
    cases v
    case long x => exact ia_s_ldc2l hx hb hown (hts _ (ia_wd_mem (of_decide_eq_true hk))) hdg h
    case double x => exact ia_s_ldc2d hx hb hown (hts _ (ia_wd_mem (of_decide_eq_true hk))) hdg h
    all_goals (cases hk)
  case iadd =>
    have hl := ia_beq (by simpa only [ia_okI] using hok)
    subst hl
    exact ia_s_iadd hx hb hdg h
  case isub =>
    have hl := ia_beq (by simpa only [ia_okI] using hok)
    subst hl
    exact ia_s_isub hx hb hdg h
  case imul =>
    have hl := ia_beq (by simpa only [ia_okI] using hok)
    subst hl
    exact ia_s_imul hx hb hdg h
  case irem =>
    have hl := ia_beq (by simpa only [ia_okI] using hok)
    subst hl
    exact ia_s_irem hx hb hdg h
  case iand =>
    have hl := ia_beq (by simpa only [ia_okI] using hok)
    subst hl
    exact ia_s_iand hx hb hdg h
  case ixor =>
    have hl := ia_beq (by simpa only [ia_okI] using hok)
    subst hl
    exact ia_s_ixor hx hb hdg h
  case ishr =>
    have hl := ia_beq (by simpa only [ia_okI] using hok)
    subst hl
    exact ia_s_ishr hx hb hdg h
  case ladd =>
    have hl := ia_beq (by simpa only [ia_okI] using hok)
    subst hl
    exact ia_s_ladd hx hb hdg h
  case lsub =>
    have hl := ia_beq (by simpa only [ia_okI] using hok)
    subst hl
    exact ia_s_lsub hx hb hdg h
  case lmul =>
    have hl := ia_beq (by simpa only [ia_okI] using hok)
    subst hl
    exact ia_s_lmul hx hb hdg h
  case land =>
    have hl := ia_beq (by simpa only [ia_okI] using hok)
    subst hl
    exact ia_s_land hx hb hdg h
  case lor =>
    have hl := ia_beq (by simpa only [ia_okI] using hok)
    subst hl
    exact ia_s_lor hx hb hdg h
  case lneg =>
    have hl := ia_beq (by simpa only [ia_okI] using hok)
    subst hl
    exact ia_s_lneg hx hb hdg h
  case lshl =>
    have hl := ia_beq (by simpa only [ia_okI] using hok)
    subst hl
    exact ia_s_lshl hx hb hdg h
  case lcmp =>
    have hl := ia_beq (by simpa only [ia_okI] using hok)
    subst hl
    exact ia_s_lcmp hx hb hdg h
  case dadd =>
    have hl := ia_beq (by simpa only [ia_okI] using hok)
    subst hl
    exact ia_s_dadd hx hb hdg h
  case dmul =>
    have hl := ia_beq (by simpa only [ia_okI] using hok)
    subst hl
    exact ia_s_dmul hx hb hdg h
  case ddiv =>
    have hl := ia_beq (by simpa only [ia_okI] using hok)
    subst hl
    exact ia_s_ddiv hx hb hdg h
  case dneg =>
    have hl := ia_beq (by simpa only [ia_okI] using hok)
    subst hl
    exact ia_s_dneg hx hb hdg h
  case i2l =>
    have hl := ia_beq (by simpa only [ia_okI] using hok)
    subst hl
    exact ia_s_i2l hx hb hdg h
  case i2b =>
    have hl := ia_beq (by simpa only [ia_okI] using hok)
    subst hl
    exact ia_s_i2b hx hb hdg h
  case i2d =>
    have hl := ia_beq (by simpa only [ia_okI] using hok)
    subst hl
    exact ia_s_i2d hx hb hdg h
  case l2d =>
    have hl := ia_beq (by simpa only [ia_okI] using hok)
    subst hl
    exact ia_s_l2d hx hb hdg h
  case d2l =>
    have hl := ia_beq (by simpa only [ia_okI] using hok)
    subst hl
    exact ia_s_d2l hx hb hdg h
  case dup =>
    have hl := ia_beq (by simpa only [ia_okI] using hok)
    subst hl
    exact ia_s_dup hx hb hdg h
  case dup2 =>
    have hl := ia_beq (by simpa only [ia_okI] using hok)
    subst hl
    exact ia_s_dup2 hx hb hdg h
  case iaload =>
    have hl := ia_beq (by simpa only [ia_okI] using hok)
    subst hl
    exact ia_s_iaload hx hb hK hT hSok.2.2 hdg h
  case baload =>
    have hl := ia_beq (by simpa only [ia_okI] using hok)
    subst hl
    exact ia_s_baload hx hb hK hT hSok.2.2 hdg h
  case laload =>
    have hl := ia_beq (by simpa only [ia_okI] using hok)
    subst hl
    exact ia_s_laload hx hb hK hT hSok.2.2 hdg h
  case iastore =>
    have hl := ia_beq (by simpa only [ia_okI] using hok)
    subst hl
    exact ia_s_iastore hx hb hK hT hSok.2.2 hdg h
  case bastore =>
    have hl := ia_beq (by simpa only [ia_okI] using hok)
    subst hl
    exact ia_s_bastore hx hb hK hT hSok.2.2 hdg h
  case lastore =>
    have hl := ia_beq (by simpa only [ia_okI] using hok)
    subst hl
    exact ia_s_lastore hx hb hK hT hSok.2.2 hdg h
  case arraylength =>
    have hl := ia_beq (by simpa only [ia_okI] using hok)
    subst hl
    exact ia_s_arraylength hx hb hK hT hSok.2.2 hdg h
  case aaload =>
    have hl := ia_beq (by simpa only [ia_okI] using hok)
    subst hl
    exact ia_s_aaload hx hb hK hT hSok.2.1 hdg h
  case dcmp =>
    have hl := ia_beq (by simpa only [ia_okI] using hok)
    subst hl
    exact ia_s_dcmp hx hb hdg h
  case goto =>
    simp only [ia_okI, Bool.and_eq_true, decide_eq_true_eq] at hok
    obtain ⟨hl, hk⟩ := hok
    have hl := ia_beq hl
    subst hl
    exact ia_s_goto hx hb hk hdg h
  case if_icmp =>
    simp only [ia_okI, Bool.and_eq_true, decide_eq_true_eq] at hok
    rename_i cnd off
    obtain ⟨hl, hk⟩ := hok
    have hl := ia_beq hl
    subst hl
    cases cnd
    · exact ia_s_icmp_eq hx hb hk hdg h
    · exact ia_s_icmp_ne hx hb hk hdg h
    · exact ia_s_icmp_lt hx hb hk hdg h
    · exact ia_s_icmp_ge hx hb hk hdg h
    · exact ia_s_icmp_gt hx hb hk hdg h
    · exact ia_s_icmp_le hx hb hk hdg h
  case ifCond =>
    simp only [ia_okI, Bool.and_eq_true, decide_eq_true_eq] at hok
    rename_i cnd off
    obtain ⟨hl, hk⟩ := hok
    have hl := ia_beq hl
    subst hl
    cases cnd
    · exact ia_s_if_eq hx hb hk hdg h
    · exact ia_s_if_ne hx hb hk hdg h
    · exact ia_s_if_lt hx hb hk hdg h
    · exact ia_s_if_ge hx hb hk hdg h
    · exact ia_s_if_gt hx hb hk hdg h
    · exact ia_s_if_le hx hb hk hdg h
  case tableswitch =>
    simp only [ia_okI, Bool.and_eq_true, decide_eq_true_eq] at hok
    obtain ⟨⟨⟨⟨⟨k1, k2⟩, k3⟩, k4⟩, k5⟩, k6⟩ := hok
    exact ia_s_tableswitch hx hb k1 (fun o ho => of_decide_eq_true (List.all_eq_true.mp k2 o ho)) k3 k4 k5 k6 hdg h
  case lookupswitch =>
    simp only [ia_okI, Bool.and_eq_true, decide_eq_true_eq] at hok
    obtain ⟨⟨⟨k1, k2⟩, k3⟩, k4⟩ := hok
    exact ia_s_lookupswitch hx hb k1 k2 (fun o ho => by have q := List.all_eq_true.mp k3 o ho; simp only [Bool.and_eq_true, decide_eq_true_eq] at q; exact ⟨q.1.1, q.1.2, q.2⟩) k4 hdg h
  case getfield =>
    simp only [ia_okI, Bool.and_eq_true, decide_eq_true_eq] at hok
    obtain ⟨hl, hk⟩ := hok
    have hl := ia_beq hl
    subst hl
    split at hk
    · rename_i q hq
      simp only [Bool.and_eq_true, Bool.or_eq_true, decide_eq_true_eq] at hk
      rcases hk.2 with hw | hw
      · exact ia_s_getfield hx hb hts hown hK hCl hq hk.1 (hts _ (ia_wd_mem hw)) hdg h
      · exact ia_s_getfieldN hx hb hts hown hK hCl hq hk.1 (va_Nw.use rfl (hNs _ (List.mem_of_getElem? hw))) hdg h
    · cases hk
  case putfield =>
    simp only [ia_okI, Bool.and_eq_true, decide_eq_true_eq] at hok
    obtain ⟨hl, hk⟩ := hok
    have hl := ia_beq hl
    subst hl
    split at hk
    · rename_i q hq
      simp only [Bool.and_eq_true, Bool.or_eq_true, decide_eq_true_eq] at hk
      rcases hk.2 with hw | hw
      · exact ia_s_putfield hx hb hts hown hK hCl hq hk.1.1 (hts _ (ia_wd_mem hw)) hk.1.2 (fun x ci ks hc hci => by subst hci; exact hSok.1 x ci ks b hc) hdg h
      · exact ia_s_putfieldN hx hb hts hown hK hCl hq hk.1.1 (va_Nw.use rfl (hNs _ (List.mem_of_getElem? hw))) hk.1.2 (fun x ci ks hc hci => by subst hci; exact hSok.1 x ci ks b hc) hdg h
    · cases hk
  case invokevirtual =>
    simp only [ia_okI, Bool.and_eq_true, decide_eq_true_eq] at hok
    obtain ⟨hl, hk⟩ := hok
    have hl := ia_beq hl
    subst hl
    split at hk
    · rename_i M2 cj hM
      have hoM := (hOK _ _ hM).1
      simp only [ia_okM, Bool.and_eq_true, decide_eq_true_eq] at hoM
      obtain ⟨⟨⟨⟨o1, o2⟩, o3⟩, o4⟩, o5⟩ := hoM
      split at hk
      · rename_i q hq
        simp only [Bool.and_eq_true, decide_eq_true_eq] at hk
        obtain ⟨⟨⟨⟨⟨⟨k1, k2⟩, k3⟩, k4⟩, k5⟩, k6⟩, k7⟩ := hk
        have k2 := ia_beq k2
        exact ia_s_invokevirtual hx hb hNs hml hts hown hG hK hA hcell (ia_wd_mem o1) (ia_wd_mem o2) o3 (by rw [o4, k2]) (ia_wd_mem k3) ⟨Nat.le_trans k6 hRm.1, Nat.le_trans k7 hRm.2⟩ hM (ia_wd_mem k4) (ia_wd_mem k5) hq k1 hdg h
      · cases hk
    · cases hk
  case invokestatic =>
    simp only [ia_okI, Bool.and_eq_true, decide_eq_true_eq] at hok
    obtain ⟨hl, hk⟩ := hok
    have hl := ia_beq hl
    subst hl
    match a, hk, h with
    | 0, hk, h =>
      simp only [Bool.and_eq_true, decide_eq_true_eq] at hk
      obtain ⟨⟨⟨k1, k2⟩, k3⟩, k4⟩ := hk
      split at k2
      · simp only [Bool.and_eq_true, decide_eq_true_eq] at k2
        obtain ⟨⟨j1, j2⟩, j3⟩ := k2
        exact ia_s_d2raw hx hb hml hown (hts _ (ia_wd_mem k1)) (hts _ (ia_wd_mem j1)) (hts _ (ia_wd_mem j2)) (hts _ (ia_wd_mem j3)) (Nat.le_trans k3 hRm.1) (Nat.le_trans k4 hRm.2) hdg h
      · cases k2
    | 1, hk, h =>
      simp only [Bool.and_eq_true, decide_eq_true_eq] at hk
      obtain ⟨⟨⟨k1, k2⟩, k3⟩, k4⟩ := hk
      split at k2
      · simp only [Bool.and_eq_true, decide_eq_true_eq] at k2
        obtain ⟨⟨j1, j2⟩, j3⟩ := k2
        exact ia_s_arraycopy hx hb hml hown hK hT (hts _ (ia_wd_mem k1)) (hts _ (ia_wd_mem j1)) (hts _ (ia_wd_mem j2)) (hts _ (ia_wd_mem j3)) (Nat.le_trans k3 hRm.1) (Nat.le_trans k4 hRm.2) hdg h
      · cases k2
    | 2, hk, h =>
      simp only [Bool.and_eq_true, decide_eq_true_eq] at hk
      obtain ⟨⟨⟨k1, k2⟩, k3⟩, k4⟩ := hk
      split at k2
      · simp only [Bool.and_eq_true, decide_eq_true_eq] at k2
        obtain ⟨⟨j1, j2⟩, j3⟩ := k2
        exact ia_s_max_long hx hb hml hown (hts _ (ia_wd_mem k1)) (hts _ (ia_wd_mem j1)) (hts _ (ia_wd_mem j2)) (hts _ (ia_wd_mem j3)) (Nat.le_trans k3 hRm.1) (Nat.le_trans k4 hRm.2) hcell hdg h
      · cases k2
    | 3, hk, h =>
      simp only [Bool.and_eq_true, decide_eq_true_eq] at hk
      obtain ⟨⟨⟨k1, k2⟩, k3⟩, k4⟩ := hk
      split at k2
      · simp only [Bool.and_eq_true, decide_eq_true_eq] at k2
        obtain ⟨⟨j1, j2⟩, j3⟩ := k2
        exact ia_s_min_long hx hb hml hown (hts _ (ia_wd_mem k1)) (hts _ (ia_wd_mem j1)) (hts _ (ia_wd_mem j2)) (hts _ (ia_wd_mem j3)) (Nat.le_trans k3 hRm.1) (Nat.le_trans k4 hRm.2) hcell hdg h
      · cases k2
    | 4, hk, h =>
      simp only [Bool.and_eq_true, decide_eq_true_eq] at hk
      obtain ⟨⟨⟨k1, k2⟩, k3⟩, k4⟩ := hk
      split at k2
      · simp only [Bool.and_eq_true, decide_eq_true_eq] at k2
        obtain ⟨⟨j1, j2⟩, j3⟩ := k2
        exact ia_s_abs_long hx hb hml hown (hts _ (ia_wd_mem k1)) (hts _ (ia_wd_mem j1)) (hts _ (ia_wd_mem j2)) (hts _ (ia_wd_mem j3)) (Nat.le_trans k3 hRm.1) (Nat.le_trans k4 hRm.2) hcell hdg h
      · cases k2
    | 5, hk, h =>
      simp only [Bool.and_eq_true, decide_eq_true_eq] at hk
      obtain ⟨⟨⟨k1, k2⟩, k3⟩, k4⟩ := hk
      split at k2
      · simp only [Bool.and_eq_true, decide_eq_true_eq] at k2
        obtain ⟨⟨j1, j2⟩, j3⟩ := k2
        exact ia_s_min_int hx hb hml hown (hts _ (ia_wd_mem k1)) (hts _ (ia_wd_mem j1)) (hts _ (ia_wd_mem j2)) (hts _ (ia_wd_mem j3)) (Nat.le_trans k3 hRm.1) (Nat.le_trans k4 hRm.2) hcell hdg h
      · cases k2
    | a + 6, hk, h =>
      simp only at hk
      split at hk
      · rename_i M2 hM
        have hoM := (hOK _ _ hM).1
        simp only [ia_okM, Bool.and_eq_true, decide_eq_true_eq] at hoM
        obtain ⟨⟨⟨⟨o1, o2⟩, o3⟩, o4⟩, o5⟩ := hoM
        simp only [Bool.and_eq_true, decide_eq_true_eq] at hk
        obtain ⟨⟨⟨⟨k2, k3⟩, k4⟩, k6⟩, k7⟩ := hk
        have k2 := ia_beq k2
        exact ia_s_invokestatic hx hb hNs hml hts hown hG hK hA hcell (ia_wd_mem o1) (ia_wd_mem o2) o3 (by rw [o4, k2]) (ia_wd_mem k3) ⟨Nat.le_trans k6 hRm.1, Nat.le_trans k7 hRm.2⟩ hM (ia_wd_mem k4) hdg h
      · cases hk
  case ireturn => exact absurd hnr (by simp [lw_nr])
  case lreturn => exact absurd hnr (by simp [lw_nr])
  case dreturn => exact absurd hnr (by simp [lw_nr])
  case return_ => exact absurd hnr (by simp [lw_nr])
  all_goals (exact absurd hok (by simp [ia_okI]))
/-- the law's script is read: its cell has the number 76, which is no cell of the world -/
theorem lw_ld {M : ia_M} {b L : Nat} {xs : Nat → Int32} (hx : p.tables.exec = Jvm.exec) (hb : c.code = M.2.2.1) (hX : va_X b L xs s s.heap) (hbl : b < s.heap.size) (hbA : ¬ A b) (had : ad 76 = b) {pc : Nat} (hdg : decode M.2.2.1 pc = .ok (.iaload, 1)) {j : Nat} (hj : j < L) (hL : L < 2 ^ 31) {i : Int32} (hi : i = nI j) {ls : ia_L} {st : List Value} {hh : ia_H} (k : ia_X p l e R s m args below meth c Q cells slots D cl A s.heap Sh ad ca M.2.2.2.1 (pc + 1, ls, .int (xs j) :: st, hh)) : ia_X p l e R s m args below meth c Q cells slots D cl A s.heap Sh ad ca M.2.2.2.1 (pc, ls, .int i :: .ref 76 :: st, hh) := by
  intro H locs lc hP hD hS hR
  have kk := k H locs lc hP hD hS hR
  subst hi
  have h_in : vp_in (nI j) L := vp_in_nI hj hL
  have ecl : (nI j).toNatClampNeg = j := nI_clamp (by omega)
  show W p l e R s m args below meth c H locs cells slots Q (F0 m pc lc (.int (nI j) :: .ref (ad 76) :: st.map (ia_v ad)))
  rw [had]
  refine va_sld hx hb hX hbl hbA hS h_in hdg ?_
  rw [ecl]
  exact kk
theorem lw_len {M : ia_M} {b L : Nat} {xs : Nat → Int32} (hx : p.tables.exec = Jvm.exec) (hb : c.code = M.2.2.1) (hX : va_X b L xs s s.heap) (hbl : b < s.heap.size) (hbA : ¬ A b) (had : ad 76 = b) {pc : Nat} (hdg : decode M.2.2.1 pc = .ok (.arraylength, 1)) {ls : ia_L} {st : List Value} {hh : ia_H} (k : ia_X p l e R s m args below meth c Q cells slots D cl A s.heap Sh ad ca M.2.2.2.1 (pc + 1, ls, .int (nI L) :: st, hh)) : ia_X p l e R s m args below meth c Q cells slots D cl A s.heap Sh ad ca M.2.2.2.1 (pc, ls, .ref 76 :: st, hh) := by
  intro H locs lc hP hD hS hR
  have kk := k H locs lc hP hD hS hR
  show W p l e R s m args below meth c H locs cells slots Q (F0 m pc lc (.ref (ad 76) :: st.map (ia_v ad)))
  rw [had]
  exact va_slen hx hb hX hbl hbA hS hdg kk
end IA5
