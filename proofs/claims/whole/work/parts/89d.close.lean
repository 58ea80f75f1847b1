section IA6
variable {p : Program} {l : Launch} {e : Env} {R : Room} {s : State} {m : MethodId} {args : Array Value} {below : List Frame} {meth : Method} {c : Code} {Q : State → Prop} {cells slots : Nat}
variable {D : va_G} {A : Nat → Prop} {tys : List (ClassId × FieldType)} {H0 : Heap} {Sh : List ia_C} {ad : Nat → Nat} {ca : Nat → ClassId}
/-- the pure machine's steps, said of a frame of any room: it closes 'the JVM comes to Q' -/
theorem ct_close {M : ia_M} (hok : ∀ ch ∈ M.2.2.2.2.2.2.1, ∀ e ∈ ch, ia_okE ia_Ts ia_Ns ia_cl ia_MT M e = true ∧ lw_nr e = true) (hSok : ia_Sok Sh ia_ty) (hT : ia_T Sh ca tys) (hx : p.tables.exec = Jvm.exec) (hb : c.code = M.2.2.1) (hml : c.maxLocals = M.2.2.2.1) (hts : ∀ w ∈ ia_Ts, w.before args s = true) (hown : s.vm.findClass M.2.1.cls = some m.cls) (hK : va_K D ia_cl tys s) (hNs : ∀ w ∈ ia_Ns, va_Nw (ia_nw w) s) (hA : ∀ q, H0.size ≤ q → A q) (hcell : cells ≤ R.cells ∧ slots ≤ R.slots) (hRm : (ia_rm M).frames ≤ R.frames ∧ (ia_rm M).locals ≤ R.locals)
    (t : ia_S) (h : ia_pre (ia_Ev Sh ia_MT) (fun _ _ => False) (ia_X p l e R s m args below meth c Q cells slots D ia_cl A H0 Sh ad ca M.2.2.2.1) (ia_step Sh M.2.2.2.2.2.2.1 t)) : ia_X p l e R s m args below meth c Q cells slots D ia_cl A H0 Sh ad ca M.2.2.2.1 t :=
  ia_step_gen (Z := fun _ _ => False) hok ia_MT_ok ia_good ia_Cl_ok hSok hT hx hb hml hts hown hK hNs hA hcell hRm t (ia_pre_mono (fun _ _ _ _ _ hE => ia_sound ia_MT_ok ia_good ia_Cl_ok hSok hT hE) (fun _ _ z => z) (fun _ z => z) h)
/-- the law's machine closes it too -/
theorem lw_close {b L : Nat} {xs : Nat → Int32} (hT : ia_T ia_Sh ca tys) (hx : p.tables.exec = Jvm.exec) (hb : c.code = code) (hml : c.maxLocals = 4) (hts : ∀ w ∈ ia_Ts, w.before args s = true) (hown : s.vm.findClass R_law = some m.cls) (hK : va_K D ia_cl tys s) (hNs : ∀ w ∈ ia_Ns, va_Nw (ia_nw w) s) (hA : ∀ q, s.heap.size ≤ q → A q) (hcell : cells ≤ R.cells ∧ slots ≤ R.slots) (hRm : 9 ≤ R.frames ∧ 328 ≤ R.locals) (hX : va_X b L xs s s.heap) (hbl : b < s.heap.size) (hbA : ¬ A b) (had : ad 76 = b) (hL : L ≤ 3072) : lw_cl L xs (ia_X p l e R s m args below meth c Q cells slots D ia_cl A s.heap ia_Sh ad ca 4) := by
  intro t h
  obtain ⟨pc, ls, st, hh⟩ := t
  cases hf : ia_find pc (ia_piece lw_K (pc / 16)) with
  | some en =>
    refine ct_close (M := lw_M) lw_okK ia_Sh_ok hT hx hb hml hts hown hK hNs hA hcell hRm _ ?_
    have e1 : ia_step ia_Sh lw_K (pc, ls, st, hh) = lw_step L xs (pc, ls, st, hh) := by simp only [ia_step, lw_step, hf]
    show ia_pre _ _ _ (ia_step ia_Sh lw_K (pc, ls, st, hh))
    rw [e1]
    exact h
  | none =>
    simp only [lw_step, hf] at h
    cases h20 : Nat.beq pc 20 with
    | true =>
      rw [h20] at h
      simp only [cond_true] at h
      have hpc : pc = 20 := Nat.eq_of_beq_eq_true h20
      subst hpc
      split at h <;> first | exact h.elim | skip
      rename_i x st'
      cases h76 : Nat.beq x 76 with
      | false => rw [h76] at h; exact h.elim
      | true =>
        rw [h76] at h
        simp only [cond_true] at h
        have hx76 : x = 76 := Nat.eq_of_beq_eq_true h76
        subst hx76
        exact lw_len (M := lw_M) hx hb hX hbl hbA had lw_len_ok h
    | false =>
      rw [h20] at h
      simp only [cond_false] at h
      cases hm : lw_mem pc lw_lds with
      | false => rw [hm] at h; exact h.elim
      | true =>
        rw [hm] at h
        simp only [cond_true] at h
        split at h <;> first | exact h.elim | skip
        rename_i i x st'
        cases h76 : Nat.beq x 76 with
        | false => rw [h76] at h; exact h.elim
        | true =>
          rw [h76] at h
          simp only [cond_true] at h
          have hx76 : x = 76 := Nat.eq_of_beq_eq_true h76
          subst hx76
          obtain ⟨j, ⟨hi, hj⟩, hk⟩ := h
          exact lw_ld (M := lw_M) hx hb hX hbl hbA had (of_decide_eq_true (List.all_eq_true.mp lw_lds_ok pc (lw_mem_in hm))) hj (by omega) hi hk
end IA6
/-- the law from the loop's head on -/
theorem lw_rest {p : Program} {l : Launch} {e : Env} {s : State} {m : MethodId} {below : List Frame} {meth : Method} {c : Code} {D : va_G} {tys : List (ClassId × FieldType)} {ad : Nat → Nat} {ca : Nat → ClassId} {b L : Nat} {xs : Nat → Int32} (hL : L ≤ 3072) (C0 : lw_At p s m meth c b L xs) (hT : ia_T ia_Sh ca tys) (hK : va_K D ia_cl tys s) (had : ad 76 = b) {h : ia_H} (hj : Jx h) : ia_X p l e room_1 s m #[Value.ref b] below meth c (lw_Z below #[Value.ref b] s) 76 22997 D ia_cl (fun q => s.heap.size ≤ q) s.heap ia_Sh ad ca 4 (18, lw_ls 0, [], h) := by
  obtain ⟨hx, hb, hr, hml, hown, hts, hX, hbl, hlocks, hgv⟩ := id C0
  have hbA : ¬ (fun q : Nat => s.heap.size ≤ q) b := Nat.not_le.mpr hbl
  refine lw_loop hL (lw_close hT hx hb hml (fun w hw => hts w (ia_Ts_in w hw)) hown hK (fun w hw => va_Nw.of rfl (hts _ (ia_Ns_in w hw))) (fun _ q => q) ⟨Nat.le_refl _, Nat.le_refl _⟩ ⟨Nat.le_refl _, Nat.le_refl _⟩ hX hbl hbA had hL) ?_ (L + 6) 0 h (by omega) (by omega) hj
  intro ls hh H locs lc hP hD hS hR
  refine va_forget hS.2.2 ?_
  exact lw_ret (d0 := s.drawn) (Drawn.sameBut.refl s.drawn lw_cs) hx hb hr hlocks lw_end_ok
