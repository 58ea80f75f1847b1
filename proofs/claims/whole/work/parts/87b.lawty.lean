/-- n steps of any step function, or up to a place where cut says stop -/
def lw_wp (stp : ia_S → ia_O) (C : Nat → List Value → ia_H → Option Value → ia_H → Prop) (Z : Option Value → ia_H → Prop) (X : ia_S → Prop) (cut : Nat → Bool) : Nat → ia_S → Prop
  | 0, s => X s
  | n + 1, s => ia_pre C Z (fun t => bif cut t.1 then X t else lw_wp stp C Z X cut n t) (stp s)
theorem lw_wp_run {stp : ia_S → ia_O} {C : Nat → List Value → ia_H → Option Value → ia_H → Prop} {Z : Option Value → ia_H → Prop} {X : ia_S → Prop} (hX : ∀ t, ia_pre C Z X (stp t) → X t) (cut : Nat → Bool) : ∀ (n : Nat) {s : ia_S}, lw_wp stp C Z X cut n s → X s
  | 0, _, h => h
  | n + 1, s, h => hX s (ia_pre_mono (fun _ _ _ _ _ h => h) (fun _ _ h => h) (fun t ht => by
      cases hc : cut t.1 with
      | true => rw [hc] at ht; exact ht
      | false => rw [hc] at ht; exact lw_wp_run hX cut n ht) h)
/-- kinds of answers -/
def lw_rk (k : Nat) (r : Option Value) : Prop := match k with
  | 0 => ∃ x, r = some (.int x)
  | _ => ∃ x, r = some (.long x)
def lw_rok (k : Nat) (e : ia_E) : Bool := match e.2.1 with
  | .ireturn => Nat.beq k 0
  | .lreturn => Nat.beq k 1
  | .dreturn => false
  | .return_ => false
  | _ => true
def lw_or (k : Nat) : ia_O → Prop
  | some (.inr (.inr (.inr (.inr (.inr (.inr (.inl (r, _)))))))) => lw_rk k r
  | some (.inr (.inr (.inr (.inr (.inr (.inr (.inr (_, r, _)))))))) => lw_rk k r
  | _ => True
theorem lw_swc {P : Prop} {x : Int32} {d : Nat} {ls : ia_L} {st : List Value} {h : ia_H} : ∀ {ts : List (Int × Nat)}, ia_sw (fun _ => P) x d ls st h ts → P
  | [], q => q
  | (k, _) :: _, q => by
    by_cases hc : x = Int32.ofInt k
    · exact q.1 hc
    · exact lw_swc (q.2 hc)
theorem lw_pc {C : Nat → List Value → ia_H → Option Value → ia_H → Prop} {k : Nat} {r0 : Option Value} {h0 : ia_H} : ∀ {o : ia_O}, lw_or k o → ia_pre C (fun r1 h1 => r1 = r0 ∧ h1 = h0) (fun _ => lw_rk k r0) o → lw_rk k r0
  | none, _, q => q.elim
  | some (.inl _), _, q => q
  | some (.inr (.inl (_, _))), _, q => q.2
  | some (.inr (.inr (.inl (_, _, _)))), _, q => by
    obtain ⟨j, g, h1⟩ := q
    exact h1
  | some (.inr (.inr (.inr (.inl (c, _, _))))), _, q => by
    by_cases hc : c
    · exact q.1 hc
    · exact q.2 hc
  | some (.inr (.inr (.inr (.inr (.inl (_, _, _, _, _, _)))))), _, q => lw_swc q
  | some (.inr (.inr (.inr (.inr (.inr (.inl (_, _, _, _, _, _))))))), _, q => by
    obtain ⟨j, g, h1⟩ := q
    exact h1
  | some (.inr (.inr (.inr (.inr (.inr (.inr (.inl (_, _)))))))), z, q => q.1 ▸ z
  | some (.inr (.inr (.inr (.inr (.inr (.inr (.inr (_, _, _)))))))), z, q => by
    obtain ⟨g, h1⟩ := q
    exact h1.1 ▸ z
set_option maxHeartbeats 4000000 in
theorem lw_f_or {Sh : List ia_C} (k : Nat) (e : ia_E) (hok : lw_rok k e = true) (ls : ia_L) (st : List Value) (h : ia_H) : lw_or k (ia_f Sh e ls st h) := by
  obtain ⟨pc, ins, len, a, b, w, v, ts⟩ := e
  cases ins
  case ireturn =>
    have hk : k = 0 := Nat.eq_of_beq_eq_true hok
    subst hk
    simp only [ia_f]
    split
    · split
      · exact ⟨_, rfl⟩
      · exact ⟨_, rfl⟩
    · exact trivial
  case lreturn =>
    have hk : k = 1 := Nat.eq_of_beq_eq_true hok
    subst hk
    simp only [ia_f]
    split
    · exact ⟨_, rfl⟩
    · exact trivial
  case dreturn => cases hok
  case return_ => cases hok
  all_goals first
    | exact trivial
    | (simp only [ia_f, ia_st1K_eq, ia_st2K_eq, cond_eq_ite]; repeat' split) <;> exact trivial
theorem lw_ev {k y : Nat} {M : ia_M} (hM : ia_meth ia_MT y = some M) (hk : M.2.2.2.2.2.2.1.all (fun ch => ch.all (lw_rok k)) = true) {as : List Value} {h : ia_H} {r : Option Value} {h' : ia_H} (hE : ia_Ev ia_Sh ia_MT y as h r h') : lw_rk k r := by
  refine hE (fun y' _ _ r _ => y' = y → lw_rk k r) ?_ rfl
  intro y' as h r h' M' hM' hn hRun e
  subst e
  have e0 : M' = M := Option.some.inj (hM'.symm.trans hM)
  subst e0
  refine hRun (fun _ => lw_rk k r) ?_
  intro t ht
  refine lw_pc (k := k) ?_ ht
  obtain ⟨pc, ls, st, hh⟩ := t
  simp only [ia_step]
  split
  · rename_i e he
    obtain ⟨ch, hch, hech⟩ := ia_piece_mem (ia_find_spec he).2
    exact lw_f_or k e (List.all_eq_true.mp (List.all_eq_true.mp hk ch hch) e hech) ls st hh
  · exact trivial
