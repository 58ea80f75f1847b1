/-! the law's loop: any X that the law's machine closes holds at the loop's head, where Jx does -/
def lw_mem (pc : Nat) : List Nat → Bool
  | [] => false
  | q :: t => bif Nat.beq q pc then true else lw_mem pc t
theorem lw_mem_in {pc : Nat} : ∀ {l : List Nat}, lw_mem pc l = true → pc ∈ l
  | [], h => by cases h
  | q :: t, h => by
    unfold lw_mem at h
    cases hb : Nat.beq q pc with
    | true => rw [Nat.eq_of_beq_eq_true hb]; exact List.mem_cons_self
    | false => rw [hb] at h; exact List.mem_cons_of_mem _ (lw_mem_in h)
def lw_step (L : Nat) (xs : Nat → Int32) (t : ia_S) : ia_O := match t with
  | (pc, ls, st, h) => match ia_find pc (ia_piece lw_K (pc / 16)) with
    | some e => ia_f ia_Sh e ls st h
    | none => bif Nat.beq pc 20 then (match st with
        | .ref x :: st => bif Nat.beq x 76 then ia_go (21, ls, .int (nI L) :: st, h) else none
        | _ => none)
      else (bif lw_mem pc lw_lds then (match st with
        | .int i :: .ref x :: st => bif Nat.beq x 76 then ia_ix i L (fun j => (pc + 1, ls, .int (xs j) :: st, h)) else none
        | _ => none) else none)
abbrev lw_ls (i : Nat) : ia_L := [some (.ref 76), some (.ref 0), some (.ref 52), some (.int (nI i))]
def lw_cl (L : Nat) (xs : Nat → Int32) (X : ia_S → Prop) : Prop := ∀ t, ia_pre (ia_Ev ia_Sh ia_MT) (fun _ _ => False) X (lw_step L xs t) → X t
theorem lw_cmp0 (x : Int64) : lg_cmp x x = 0 := by
  unfold lg_cmp
  simp
abbrev lw_cut18 (pc : Nat) : Bool := Nat.beq pc 18
set_option maxHeartbeats 4000000 in
theorem lw_c0 {L : Nat} {xs : Nat → Int32} {X : ia_S → Prop} (hX : lw_cl L xs X) {i : Nat} (hi : i + 6 ≤ L) {h : ia_H} (hj : Jx h) (nx : ∀ h1, Jx h1 → X (18, lw_ls (i + 6), [], h1)) : X (152, lw_ls i, [], h) := by
  obtain ⟨r, h1, e1, r2, h2, e2, er, hj2⟩ := j_feed hj (xs (i + 1)) (xs (i + 2)) (xs (i + 3)) (xs (i + 4)) (xs (i + 5))
  subst er
  obtain ⟨x, rfl⟩ := lw_ev (k := 0) (M := ia_m_X7_feed) rfl (by decide +kernel) e1
  refine lw_wp_run hX lw_cut18 90 ?_
  conv => whnf
  refine ⟨i + 1, ⟨nI_add i 1, by omega⟩, ?_⟩
  conv => whnf
  refine ⟨i + 2, ⟨nI_add i 2, by omega⟩, ?_⟩
  conv => whnf
  refine ⟨i + 3, ⟨nI_add i 3, by omega⟩, ?_⟩
  conv => whnf
  refine ⟨i + 4, ⟨nI_add i 4, by omega⟩, ?_⟩
  conv => whnf
  refine ⟨i + 5, ⟨nI_add i 5, by omega⟩, ?_⟩
  conv => whnf
  refine ⟨(some (.int x), h1), e1, ?_⟩
  conv => whnf
  refine ⟨i + 1, ⟨nI_add i 1, by omega⟩, ?_⟩
  conv => whnf
  refine ⟨i + 2, ⟨nI_add i 2, by omega⟩, ?_⟩
  conv => whnf
  refine ⟨i + 3, ⟨nI_add i 3, by omega⟩, ?_⟩
  conv => whnf
  refine ⟨i + 4, ⟨nI_add i 4, by omega⟩, ?_⟩
  conv => whnf
  refine ⟨i + 5, ⟨nI_add i 5, by omega⟩, ?_⟩
  conv => whnf
  refine ⟨(some (.int x), h2), e2, ?_⟩
  conv => whnf
  refine ⟨fun _ => ?_, fun hn => absurd rfl hn⟩
  conv => whnf
  have e6 : nI i + 6 = nI (i + 6) := nI_add i 6
  show X (18, [some (.ref 76), some (.ref 0), some (.ref 52), some (.int (nI i + 6))], [], h2)
  rw [e6]
  exact nx h2 hj2
set_option maxHeartbeats 4000000 in
theorem lw_c1 {L : Nat} {xs : Nat → Int32} {X : ia_S → Prop} (hX : lw_cl L xs X) {i : Nat} (hi : i + 6 ≤ L) {h : ia_H} (hj : Jx h) (nx : ∀ h1, Jx h1 → X (18, lw_ls (i + 6), [], h1)) : X (215, lw_ls i, [], h) := by
  obtain ⟨r, h1, e1, r2, h2, e2, er, hj2⟩ := j_end hj (xs (i + 1))
  subst er
  obtain ⟨x, rfl⟩ := lw_ev (k := 0) (M := ia_m_X7_end) rfl (by decide +kernel) e1
  refine lw_wp_run hX lw_cut18 90 ?_
  conv => whnf
  refine ⟨i + 1, ⟨nI_add i 1, by omega⟩, ?_⟩
  conv => whnf
  refine ⟨(some (.int x), h1), e1, ?_⟩
  conv => whnf
  refine ⟨i + 1, ⟨nI_add i 1, by omega⟩, ?_⟩
  conv => whnf
  refine ⟨(some (.int x), h2), e2, ?_⟩
  conv => whnf
  refine ⟨fun _ => ?_, fun hn => absurd rfl hn⟩
  conv => whnf
  have e6 : nI i + 6 = nI (i + 6) := nI_add i 6
  show X (18, [some (.ref 76), some (.ref 0), some (.ref 52), some (.int (nI i + 6))], [], h2)
  rw [e6]
  exact nx h2 hj2
set_option maxHeartbeats 4000000 in
theorem lw_c2 {L : Nat} {xs : Nat → Int32} {X : ia_S → Prop} (hX : lw_cl L xs X) {i : Nat} (hi : i + 6 ≤ L) {h : ia_H} (hj : Jx h) (nx : ∀ h1, Jx h1 → X (18, lw_ls (i + 6), [], h1)) : X (238, lw_ls i, [], h) := by
  obtain ⟨r, h1, e1, r2, h2, e2, er, hj2⟩ := j_tell hj 
  subst er
  obtain ⟨x, rfl⟩ := lw_ev (k := 0) (M := ia_m_X7_tell) rfl (by decide +kernel) e1
  refine lw_wp_run hX lw_cut18 90 ?_
  conv => whnf
  refine ⟨(some (.int x), h1), e1, ?_⟩
  conv => whnf
  refine ⟨(some (.int x), h2), e2, ?_⟩
  conv => whnf
  refine ⟨fun _ => ?_, fun hn => absurd rfl hn⟩
  conv => whnf
  have e6 : nI i + 6 = nI (i + 6) := nI_add i 6
  show X (18, [some (.ref 76), some (.ref 0), some (.ref 52), some (.int (nI i + 6))], [], h2)
  rw [e6]
  exact nx h2 hj2
set_option maxHeartbeats 4000000 in
theorem lw_c3 {L : Nat} {xs : Nat → Int32} {X : ia_S → Prop} (hX : lw_cl L xs X) {i : Nat} (hi : i + 6 ≤ L) {h : ia_H} (hj : Jx h) (nx : ∀ h1, Jx h1 → X (18, lw_ls (i + 6), [], h1)) : X (251, lw_ls i, [], h) := by
  obtain ⟨r, h1, e1, r2, h2, e2, er, hj2⟩ := j_test hj 
  subst er
  obtain ⟨x, rfl⟩ := lw_ev (k := 0) (M := ia_m_X7_test) rfl (by decide +kernel) e1
  refine lw_wp_run hX lw_cut18 90 ?_
  conv => whnf
  refine ⟨(some (.int x), h1), e1, ?_⟩
  conv => whnf
  refine ⟨(some (.int x), h2), e2, ?_⟩
  conv => whnf
  refine ⟨fun _ => ?_, fun hn => absurd rfl hn⟩
  conv => whnf
  have e6 : nI i + 6 = nI (i + 6) := nI_add i 6
  show X (18, [some (.ref 76), some (.ref 0), some (.ref 52), some (.int (nI i + 6))], [], h2)
  rw [e6]
  exact nx h2 hj2
set_option maxHeartbeats 4000000 in
theorem lw_c4 {L : Nat} {xs : Nat → Int32} {X : ia_S → Prop} (hX : lw_cl L xs X) {i : Nat} (hi : i + 6 ≤ L) {h : ia_H} (hj : Jx h) (nx : ∀ h1, Jx h1 → X (18, lw_ls (i + 6), [], h1)) : X (264, lw_ls i, [], h) := by
  obtain ⟨r, h1, e1, r2, h2, e2, er, hj2⟩ := j_retract hj (xs (i + 1))
  subst er
  obtain ⟨x, rfl⟩ := lw_ev (k := 0) (M := ia_m_X7_retract) rfl (by decide +kernel) e1
  refine lw_wp_run hX lw_cut18 90 ?_
  conv => whnf
  refine ⟨i + 1, ⟨nI_add i 1, by omega⟩, ?_⟩
  conv => whnf
  refine ⟨(some (.int x), h1), e1, ?_⟩
  conv => whnf
  refine ⟨i + 1, ⟨nI_add i 1, by omega⟩, ?_⟩
  conv => whnf
  refine ⟨(some (.int x), h2), e2, ?_⟩
  conv => whnf
  refine ⟨fun _ => ?_, fun hn => absurd rfl hn⟩
  conv => whnf
  have e6 : nI i + 6 = nI (i + 6) := nI_add i 6
  show X (18, [some (.ref 76), some (.ref 0), some (.ref 52), some (.int (nI i + 6))], [], h2)
  rw [e6]
  exact nx h2 hj2
set_option maxHeartbeats 4000000 in
theorem lw_c5 {L : Nat} {xs : Nat → Int32} {X : ia_S → Prop} (hX : lw_cl L xs X) {i : Nat} (hi : i + 6 ≤ L) {h : ia_H} (hj : Jx h) (nx : ∀ h1, Jx h1 → X (18, lw_ls (i + 6), [], h1)) : X (287, lw_ls i, [], h) := by
  obtain ⟨r, h1, e1, r2, h2, e2, er, hj2⟩ := j_restore hj (xs (i + 1))
  subst er
  obtain ⟨x, rfl⟩ := lw_ev (k := 0) (M := ia_m_X7_restore) rfl (by decide +kernel) e1
  refine lw_wp_run hX lw_cut18 90 ?_
  conv => whnf
  refine ⟨i + 1, ⟨nI_add i 1, by omega⟩, ?_⟩
  conv => whnf
  refine ⟨(some (.int x), h1), e1, ?_⟩
  conv => whnf
  refine ⟨i + 1, ⟨nI_add i 1, by omega⟩, ?_⟩
  conv => whnf
  refine ⟨(some (.int x), h2), e2, ?_⟩
  conv => whnf
  refine ⟨fun _ => ?_, fun hn => absurd rfl hn⟩
  conv => whnf
  have e6 : nI i + 6 = nI (i + 6) := nI_add i 6
  show X (18, [some (.ref 76), some (.ref 0), some (.ref 52), some (.int (nI i + 6))], [], h2)
  rw [e6]
  exact nx h2 hj2
set_option maxHeartbeats 4000000 in
theorem lw_c6 {L : Nat} {xs : Nat → Int32} {X : ia_S → Prop} (hX : lw_cl L xs X) {i : Nat} (hi : i + 6 ≤ L) {h : ia_H} (hj : Jx h) (nx : ∀ h1, Jx h1 → X (18, lw_ls (i + 6), [], h1)) : X (310, lw_ls i, [], h) := by
  obtain ⟨r, h1, e1, r2, h2, e2, er, hj2⟩ := j_undo hj 
  subst er
  obtain ⟨x, rfl⟩ := lw_ev (k := 0) (M := ia_m_X7_undo) rfl (by decide +kernel) e1
  refine lw_wp_run hX lw_cut18 90 ?_
  conv => whnf
  refine ⟨(some (.int x), h1), e1, ?_⟩
  conv => whnf
  refine ⟨(some (.int x), h2), e2, ?_⟩
  conv => whnf
  refine ⟨fun _ => ?_, fun hn => absurd rfl hn⟩
  conv => whnf
  have e6 : nI i + 6 = nI (i + 6) := nI_add i 6
  show X (18, [some (.ref 76), some (.ref 0), some (.ref 52), some (.int (nI i + 6))], [], h2)
  rw [e6]
  exact nx h2 hj2
set_option maxHeartbeats 4000000 in
theorem lw_c7 {L : Nat} {xs : Nat → Int32} {X : ia_S → Prop} (hX : lw_cl L xs X) {i : Nat} (hi : i + 6 ≤ L) {h : ia_H} (hj : Jx h) (nx : ∀ h1, Jx h1 → X (18, lw_ls (i + 6), [], h1)) : X (323, lw_ls i, [], h) := by
  obtain ⟨r, h1, e1, r2, h2, e2, er, hj2⟩ := j_statement hj (xs (i + 1)) (xs (i + 2))
  subst er
  obtain ⟨x, rfl⟩ := lw_ev (k := 0) (M := ia_m_X7_statement) rfl (by decide +kernel) e1
  refine lw_wp_run hX lw_cut18 90 ?_
  conv => whnf
  refine ⟨i + 1, ⟨nI_add i 1, by omega⟩, ?_⟩
  conv => whnf
  refine ⟨i + 2, ⟨nI_add i 2, by omega⟩, ?_⟩
  conv => whnf
  refine ⟨(some (.int x), h1), e1, ?_⟩
  conv => whnf
  refine ⟨i + 1, ⟨nI_add i 1, by omega⟩, ?_⟩
  conv => whnf
  refine ⟨i + 2, ⟨nI_add i 2, by omega⟩, ?_⟩
  conv => whnf
  refine ⟨(some (.int x), h2), e2, ?_⟩
  conv => whnf
  refine ⟨fun _ => ?_, fun hn => absurd rfl hn⟩
  conv => whnf
  have e6 : nI i + 6 = nI (i + 6) := nI_add i 6
  show X (18, [some (.ref 76), some (.ref 0), some (.ref 52), some (.int (nI i + 6))], [], h2)
  rw [e6]
  exact nx h2 hj2
set_option maxHeartbeats 4000000 in
theorem lw_c8 {L : Nat} {xs : Nat → Int32} {X : ia_S → Prop} (hX : lw_cl L xs X) {i : Nat} (hi : i + 6 ≤ L) {h : ia_H} (hj : Jx h) (nx : ∀ h1, Jx h1 → X (18, lw_ls (i + 6), [], h1)) : X (356, lw_ls i, [], h) := by
  obtain ⟨r, h1, e1, r2, h2, e2, er, hj2⟩ := j_amount hj (xs (i + 1))
  subst er
  obtain ⟨x, rfl⟩ := lw_ev (k := 1) (M := ia_m_X7_amount) rfl (by decide +kernel) e1
  refine lw_wp_run hX lw_cut18 90 ?_
  conv => whnf
  refine ⟨i + 1, ⟨nI_add i 1, by omega⟩, ?_⟩
  conv => whnf
  refine ⟨(some (.long x), h1), e1, ?_⟩
  conv => whnf
  refine ⟨i + 1, ⟨nI_add i 1, by omega⟩, ?_⟩
  conv => whnf
  refine ⟨(some (.long x), h2), e2, ?_⟩
  conv => whnf
  refine ⟨fun _ => ?_, fun hn => absurd (lw_cmp0 x) hn⟩
  conv => whnf
  have e6 : nI i + 6 = nI (i + 6) := nI_add i 6
  show X (18, [some (.ref 76), some (.ref 0), some (.ref 52), some (.int (nI i + 6))], [], h2)
  rw [e6]
  exact nx h2 hj2
set_option maxHeartbeats 4000000 in
theorem lw_c9 {L : Nat} {xs : Nat → Int32} {X : ia_S → Prop} (hX : lw_cl L xs X) {i : Nat} (hi : i + 6 ≤ L) {h : ia_H} (hj : Jx h) (nx : ∀ h1, Jx h1 → X (18, lw_ls (i + 6), [], h1)) : X (380, lw_ls i, [], h) := by
  obtain ⟨r, h1, e1, r2, h2, e2, er, hj2⟩ := j_gauge hj 
  subst er
  obtain ⟨x, rfl⟩ := lw_ev (k := 0) (M := ia_m_X7_gauge) rfl (by decide +kernel) e1
  refine lw_wp_run hX lw_cut18 90 ?_
  conv => whnf
  refine ⟨(some (.int x), h1), e1, ?_⟩
  conv => whnf
  refine ⟨(some (.int x), h2), e2, ?_⟩
  conv => whnf
  refine ⟨fun _ => ?_, fun hn => absurd rfl hn⟩
  conv => whnf
  have e6 : nI i + 6 = nI (i + 6) := nI_add i 6
  show X (18, [some (.ref 76), some (.ref 0), some (.ref 52), some (.int (nI i + 6))], [], h2)
  rw [e6]
  exact nx h2 hj2
set_option maxHeartbeats 4000000 in
theorem lw_c10 {L : Nat} {xs : Nat → Int32} {X : ia_S → Prop} (hX : lw_cl L xs X) {i : Nat} (hi : i + 6 ≤ L) {h : ia_H} (hj : Jx h) (nx : ∀ h1, Jx h1 → X (18, lw_ls (i + 6), [], h1)) : X (393, lw_ls i, [], h) := by
  obtain ⟨r, h1, e1, r2, h2, e2, er, hj2⟩ := j_letter hj (xs (i + 1)) (xs (i + 2))
  subst er
  obtain ⟨x, rfl⟩ := lw_ev (k := 0) (M := ia_m_X7_letter) rfl (by decide +kernel) e1
  refine lw_wp_run hX lw_cut18 90 ?_
  conv => whnf
  refine ⟨i + 1, ⟨nI_add i 1, by omega⟩, ?_⟩
  conv => whnf
  refine ⟨i + 2, ⟨nI_add i 2, by omega⟩, ?_⟩
  conv => whnf
  refine ⟨(some (.int x), h1), e1, ?_⟩
  conv => whnf
  refine ⟨i + 1, ⟨nI_add i 1, by omega⟩, ?_⟩
  conv => whnf
  refine ⟨i + 2, ⟨nI_add i 2, by omega⟩, ?_⟩
  conv => whnf
  refine ⟨(some (.int x), h2), e2, ?_⟩
  conv => whnf
  refine ⟨fun _ => ?_, fun hn => absurd rfl hn⟩
  conv => whnf
  have e6 : nI i + 6 = nI (i + 6) := nI_add i 6
  show X (18, [some (.ref 76), some (.ref 0), some (.ref 52), some (.int (nI i + 6))], [], h2)
  rw [e6]
  exact nx h2 hj2
set_option maxHeartbeats 4000000 in
theorem lw_c11 {L : Nat} {xs : Nat → Int32} {X : ia_S → Prop} (hX : lw_cl L xs X) {i : Nat} (hi : i + 6 ≤ L) {h : ia_H} (hj : Jx h) (nx : ∀ h1, Jx h1 → X (18, lw_ls (i + 6), [], h1)) : X (426, lw_ls i, [], h) := by
  obtain ⟨r, h1, e1, r2, h2, e2, er, hj2⟩ := j_difference hj (xs (i + 1)) (xs (i + 2))
  subst er
  obtain ⟨x, rfl⟩ := lw_ev (k := 1) (M := ia_m_X7_difference) rfl (by decide +kernel) e1
  refine lw_wp_run hX lw_cut18 90 ?_
  conv => whnf
  refine ⟨i + 1, ⟨nI_add i 1, by omega⟩, ?_⟩
  conv => whnf
  refine ⟨i + 2, ⟨nI_add i 2, by omega⟩, ?_⟩
  conv => whnf
  refine ⟨(some (.long x), h1), e1, ?_⟩
  conv => whnf
  refine ⟨i + 1, ⟨nI_add i 1, by omega⟩, ?_⟩
  conv => whnf
  refine ⟨i + 2, ⟨nI_add i 2, by omega⟩, ?_⟩
  conv => whnf
  refine ⟨(some (.long x), h2), e2, ?_⟩
  conv => whnf
  refine ⟨fun _ => ?_, fun hn => absurd (lw_cmp0 x) hn⟩
  conv => whnf
  have e6 : nI i + 6 = nI (i + 6) := nI_add i 6
  show X (18, [some (.ref 76), some (.ref 0), some (.ref 52), some (.int (nI i + 6))], [], h2)
  rw [e6]
  exact nx h2 hj2
set_option maxHeartbeats 4000000 in
theorem lw_c12 {L : Nat} {xs : Nat → Int32} {X : ia_S → Prop} (hX : lw_cl L xs X) {i : Nat} (hi : i + 6 ≤ L) {h : ia_H} (hj : Jx h) (nx : ∀ h1, Jx h1 → X (18, lw_ls (i + 6), [], h1)) : X (460, lw_ls i, [], h) := by
  obtain ⟨r, h1, e1, r2, h2, e2, er, hj2⟩ := j_offset hj (xs (i + 1))
  subst er
  obtain ⟨x, rfl⟩ := lw_ev (k := 1) (M := ia_m_X7_offset) rfl (by decide +kernel) e1
  refine lw_wp_run hX lw_cut18 90 ?_
  conv => whnf
  refine ⟨i + 1, ⟨nI_add i 1, by omega⟩, ?_⟩
  conv => whnf
  refine ⟨(some (.long x), h1), e1, ?_⟩
  conv => whnf
  refine ⟨i + 1, ⟨nI_add i 1, by omega⟩, ?_⟩
  conv => whnf
  refine ⟨(some (.long x), h2), e2, ?_⟩
  conv => whnf
  refine ⟨fun _ => ?_, fun hn => absurd (lw_cmp0 x) hn⟩
  conv => whnf
  have e6 : nI i + 6 = nI (i + 6) := nI_add i 6
  show X (18, [some (.ref 76), some (.ref 0), some (.ref 52), some (.int (nI i + 6))], [], h2)
  rw [e6]
  exact nx h2 hj2
set_option maxHeartbeats 4000000 in
theorem lw_c13 {L : Nat} {xs : Nat → Int32} {X : ia_S → Prop} (hX : lw_cl L xs X) {i : Nat} (hi : i + 6 ≤ L) {h : ia_H} (hj : Jx h) (nx : ∀ h1, Jx h1 → X (18, lw_ls (i + 6), [], h1)) : X (484, lw_ls i, [], h) := by
  obtain ⟨r, h1, e1, r2, h2, e2, er, hj2⟩ := j_group hj (xs (i + 1)) (xs (i + 2))
  subst er
  obtain ⟨x, rfl⟩ := lw_ev (k := 0) (M := ia_m_X7_group) rfl (by decide +kernel) e1
  refine lw_wp_run hX lw_cut18 90 ?_
  conv => whnf
  refine ⟨i + 1, ⟨nI_add i 1, by omega⟩, ?_⟩
  conv => whnf
  refine ⟨i + 2, ⟨nI_add i 2, by omega⟩, ?_⟩
  conv => whnf
  refine ⟨(some (.int x), h1), e1, ?_⟩
  conv => whnf
  refine ⟨i + 1, ⟨nI_add i 1, by omega⟩, ?_⟩
  conv => whnf
  refine ⟨i + 2, ⟨nI_add i 2, by omega⟩, ?_⟩
  conv => whnf
  refine ⟨(some (.int x), h2), e2, ?_⟩
  conv => whnf
  refine ⟨fun _ => ?_, fun hn => absurd rfl hn⟩
  conv => whnf
  have e6 : nI i + 6 = nI (i + 6) := nI_add i 6
  show X (18, [some (.ref 76), some (.ref 0), some (.ref 52), some (.int (nI i + 6))], [], h2)
  rw [e6]
  exact nx h2 hj2
set_option maxHeartbeats 4000000 in
theorem lw_c14 {L : Nat} {xs : Nat → Int32} {X : ia_S → Prop} (hX : lw_cl L xs X) {i : Nat} (hi : i + 6 ≤ L) {h : ia_H} (hj : Jx h) (nx : ∀ h1, Jx h1 → X (18, lw_ls (i + 6), [], h1)) : X (517, lw_ls i, [], h) := by
  obtain ⟨r, h1, e1, r2, h2, e2, er, hj2⟩ := j_order hj (xs (i + 1)) (xs (i + 2))
  subst er
  obtain ⟨x, rfl⟩ := lw_ev (k := 0) (M := ia_m_X7_order) rfl (by decide +kernel) e1
  refine lw_wp_run hX lw_cut18 90 ?_
  conv => whnf
  refine ⟨i + 1, ⟨nI_add i 1, by omega⟩, ?_⟩
  conv => whnf
  refine ⟨i + 2, ⟨nI_add i 2, by omega⟩, ?_⟩
  conv => whnf
  refine ⟨(some (.int x), h1), e1, ?_⟩
  conv => whnf
  refine ⟨i + 1, ⟨nI_add i 1, by omega⟩, ?_⟩
  conv => whnf
  refine ⟨i + 2, ⟨nI_add i 2, by omega⟩, ?_⟩
  conv => whnf
  refine ⟨(some (.int x), h2), e2, ?_⟩
  conv => whnf
  refine ⟨fun _ => ?_, fun hn => absurd rfl hn⟩
  conv => whnf
  have e6 : nI i + 6 = nI (i + 6) := nI_add i 6
  show X (18, [some (.ref 76), some (.ref 0), some (.ref 52), some (.int (nI i + 6))], [], h2)
  rw [e6]
  exact nx h2 hj2
set_option maxHeartbeats 4000000 in
theorem lw_c15 {L : Nat} {xs : Nat → Int32} {X : ia_S → Prop} (hX : lw_cl L xs X) {i : Nat} (hi : i + 6 ≤ L) {h : ia_H} (hj : Jx h) (nx : ∀ h1, Jx h1 → X (18, lw_ls (i + 6), [], h1)) : X (550, lw_ls i, [], h) := by
  obtain ⟨r, h1, e1, r2, h2, e2, er, hj2⟩ := j_span hj (xs (i + 1))
  subst er
  obtain ⟨x, rfl⟩ := lw_ev (k := 1) (M := ia_m_X7_span) rfl (by decide +kernel) e1
  refine lw_wp_run hX lw_cut18 90 ?_
  conv => whnf
  refine ⟨i + 1, ⟨nI_add i 1, by omega⟩, ?_⟩
  conv => whnf
  refine ⟨(some (.long x), h1), e1, ?_⟩
  conv => whnf
  refine ⟨i + 1, ⟨nI_add i 1, by omega⟩, ?_⟩
  conv => whnf
  refine ⟨(some (.long x), h2), e2, ?_⟩
  conv => whnf
  refine ⟨fun _ => ?_, fun hn => absurd (lw_cmp0 x) hn⟩
  conv => whnf
  have e6 : nI i + 6 = nI (i + 6) := nI_add i 6
  show X (18, [some (.ref 76), some (.ref 0), some (.ref 52), some (.int (nI i + 6))], [], h2)
  rw [e6]
  exact nx h2 hj2
set_option maxHeartbeats 4000000 in
theorem lw_c16 {L : Nat} {xs : Nat → Int32} {X : ia_S → Prop} (hX : lw_cl L xs X) {i : Nat} (hi : i + 6 ≤ L) {h : ia_H} (hj : Jx h) (nx : ∀ h1, Jx h1 → X (18, lw_ls (i + 6), [], h1)) : X (574, lw_ls i, [], h) := by
  obtain ⟨r, h1, e1, r2, h2, e2, er, hj2⟩ := j_mean hj (xs (i + 1))
  subst er
  obtain ⟨x, rfl⟩ := lw_ev (k := 1) (M := ia_m_X7_mean) rfl (by decide +kernel) e1
  refine lw_wp_run hX lw_cut18 90 ?_
  conv => whnf
  refine ⟨i + 1, ⟨nI_add i 1, by omega⟩, ?_⟩
  conv => whnf
  refine ⟨(some (.long x), h1), e1, ?_⟩
  conv => whnf
  refine ⟨i + 1, ⟨nI_add i 1, by omega⟩, ?_⟩
  conv => whnf
  refine ⟨(some (.long x), h2), e2, ?_⟩
  conv => whnf
  refine ⟨fun _ => ?_, fun hn => absurd (lw_cmp0 x) hn⟩
  conv => whnf
  have e6 : nI i + 6 = nI (i + 6) := nI_add i 6
  show X (18, [some (.ref 76), some (.ref 0), some (.ref 52), some (.int (nI i + 6))], [], h2)
  rw [e6]
  exact nx h2 hj2
set_option maxHeartbeats 4000000 in
theorem lw_c17 {L : Nat} {xs : Nat → Int32} {X : ia_S → Prop} (hX : lw_cl L xs X) {i : Nat} (hi : i + 6 ≤ L) {h : ia_H} (hj : Jx h) (nx : ∀ h1, Jx h1 → X (18, lw_ls (i + 6), [], h1)) : X (598, lw_ls i, [], h) := by
  obtain ⟨r, h1, e1, r2, h2, e2, er, hj2⟩ := j_twos hj ((xs (i + 1)).toInt64 <<< ((32 : Int32).toInt64 &&& 63) ||| (xs (i + 2)).toInt64 &&& 4294967295)
  subst er
  obtain ⟨x, rfl⟩ := lw_ev (k := 0) (M := ia_m_X7_twos) rfl (by decide +kernel) e1
  refine lw_wp_run hX lw_cut18 90 ?_
  conv => whnf
  refine ⟨i + 1, ⟨nI_add i 1, by omega⟩, ?_⟩
  conv => whnf
  refine ⟨i + 2, ⟨nI_add i 2, by omega⟩, ?_⟩
  conv => whnf
  refine ⟨(some (.int x), h1), e1, ?_⟩
  conv => whnf
  refine ⟨i + 1, ⟨nI_add i 1, by omega⟩, ?_⟩
  conv => whnf
  refine ⟨i + 2, ⟨nI_add i 2, by omega⟩, ?_⟩
  conv => whnf
  refine ⟨(some (.int x), h2), e2, ?_⟩
  conv => whnf
  refine ⟨fun _ => ?_, fun hn => absurd rfl hn⟩
  conv => whnf
  have e6 : nI i + 6 = nI (i + 6) := nI_add i 6
  show X (18, [some (.ref 76), some (.ref 0), some (.ref 52), some (.int (nI i + 6))], [], h2)
  rw [e6]
  exact nx h2 hj2
set_option maxHeartbeats 4000000 in
theorem lw_c18 {L : Nat} {xs : Nat → Int32} {X : ia_S → Prop} (hX : lw_cl L xs X) {i : Nat} (hi : i + 6 ≤ L) {h : ia_H} (hj : Jx h) (nx : ∀ h1, Jx h1 → X (18, lw_ls (i + 6), [], h1)) : X (651, lw_ls i, [], h) := by
  obtain ⟨r, h1, e1, r2, h2, e2, er, hj2⟩ := j_chain hj (xs (i + 1)) (xs (i + 2)) (xs (i + 3))
  subst er
  obtain ⟨x, rfl⟩ := lw_ev (k := 0) (M := ia_m_X7_chain) rfl (by decide +kernel) e1
  refine lw_wp_run hX lw_cut18 90 ?_
  conv => whnf
  refine ⟨i + 1, ⟨nI_add i 1, by omega⟩, ?_⟩
  conv => whnf
  refine ⟨i + 2, ⟨nI_add i 2, by omega⟩, ?_⟩
  conv => whnf
  refine ⟨i + 3, ⟨nI_add i 3, by omega⟩, ?_⟩
  conv => whnf
  refine ⟨(some (.int x), h1), e1, ?_⟩
  conv => whnf
  refine ⟨i + 1, ⟨nI_add i 1, by omega⟩, ?_⟩
  conv => whnf
  refine ⟨i + 2, ⟨nI_add i 2, by omega⟩, ?_⟩
  conv => whnf
  refine ⟨i + 3, ⟨nI_add i 3, by omega⟩, ?_⟩
  conv => whnf
  refine ⟨(some (.int x), h2), e2, ?_⟩
  conv => whnf
  refine ⟨fun _ => ?_, fun hn => absurd rfl hn⟩
  conv => whnf
  have e6 : nI i + 6 = nI (i + 6) := nI_add i 6
  show X (18, [some (.ref 76), some (.ref 0), some (.ref 52), some (.int (nI i + 6))], [], h2)
  rw [e6]
  exact nx h2 hj2
set_option maxHeartbeats 4000000 in
theorem lw_c19 {L : Nat} {xs : Nat → Int32} {X : ia_S → Prop} (hX : lw_cl L xs X) {i : Nat} (hi : i + 6 ≤ L) {h : ia_H} (hj : Jx h) (nx : ∀ h1, Jx h1 → X (18, lw_ls (i + 6), [], h1)) : X (694, lw_ls i, [], h) := by
  obtain ⟨r, h1, e1, r2, h2, e2, er, hj2⟩ := j_cut hj (xs (i + 1)) (xs (i + 2))
  subst er
  obtain ⟨x, rfl⟩ := lw_ev (k := 0) (M := ia_m_X7_cut) rfl (by decide +kernel) e1
  refine lw_wp_run hX lw_cut18 90 ?_
  conv => whnf
  refine ⟨i + 1, ⟨nI_add i 1, by omega⟩, ?_⟩
  conv => whnf
  refine ⟨i + 2, ⟨nI_add i 2, by omega⟩, ?_⟩
  conv => whnf
  refine ⟨(some (.int x), h1), e1, ?_⟩
  conv => whnf
  refine ⟨i + 1, ⟨nI_add i 1, by omega⟩, ?_⟩
  conv => whnf
  refine ⟨i + 2, ⟨nI_add i 2, by omega⟩, ?_⟩
  conv => whnf
  refine ⟨(some (.int x), h2), e2, ?_⟩
  conv => whnf
  refine ⟨fun _ => ?_, fun hn => absurd rfl hn⟩
  conv => whnf
  have e6 : nI i + 6 = nI (i + 6) := nI_add i 6
  show X (18, [some (.ref 76), some (.ref 0), some (.ref 52), some (.int (nI i + 6))], [], h2)
  rw [e6]
  exact nx h2 hj2
set_option maxHeartbeats 4000000 in
theorem lw_c20 {L : Nat} {xs : Nat → Int32} {X : ia_S → Prop} (hX : lw_cl L xs X) {i : Nat} (hi : i + 6 ≤ L) {h : ia_H} (hj : Jx h) (nx : ∀ h1, Jx h1 → X (18, lw_ls (i + 6), [], h1)) : X (727, lw_ls i, [], h) := by
  obtain ⟨r, h1, e1, r2, h2, e2, er, hj2⟩ := j_blame hj (xs (i + 1))
  subst er
  obtain ⟨x, rfl⟩ := lw_ev (k := 0) (M := ia_m_X7_blame) rfl (by decide +kernel) e1
  refine lw_wp_run hX lw_cut18 90 ?_
  conv => whnf
  refine ⟨i + 1, ⟨nI_add i 1, by omega⟩, ?_⟩
  conv => whnf
  refine ⟨(some (.int x), h1), e1, ?_⟩
  conv => whnf
  refine ⟨i + 1, ⟨nI_add i 1, by omega⟩, ?_⟩
  conv => whnf
  refine ⟨(some (.int x), h2), e2, ?_⟩
  conv => whnf
  refine ⟨fun _ => ?_, fun hn => absurd rfl hn⟩
  conv => whnf
  have e6 : nI i + 6 = nI (i + 6) := nI_add i 6
  show X (18, [some (.ref 76), some (.ref 0), some (.ref 52), some (.int (nI i + 6))], [], h2)
  rw [e6]
  exact nx h2 hj2
set_option maxHeartbeats 4000000 in
theorem lw_c21 {L : Nat} {xs : Nat → Int32} {X : ia_S → Prop} (hX : lw_cl L xs X) {i : Nat} (hi : i + 6 ≤ L) {h : ia_H} (hj : Jx h) (nx : ∀ h1, Jx h1 → X (18, lw_ls (i + 6), [], h1)) : X (750, lw_ls i, [], h) := by
  obtain ⟨r, h1, e1, r2, h2, e2, er, hj2⟩ := j_pin hj (xs (i + 1)) (xs (i + 2)) (xs (i + 3))
  subst er
  obtain ⟨x, rfl⟩ := lw_ev (k := 0) (M := ia_m_X7_pin) rfl (by decide +kernel) e1
  refine lw_wp_run hX lw_cut18 90 ?_
  conv => whnf
  refine ⟨i + 1, ⟨nI_add i 1, by omega⟩, ?_⟩
  conv => whnf
  refine ⟨i + 2, ⟨nI_add i 2, by omega⟩, ?_⟩
  conv => whnf
  refine ⟨i + 3, ⟨nI_add i 3, by omega⟩, ?_⟩
  conv => whnf
  refine ⟨(some (.int x), h1), e1, ?_⟩
  conv => whnf
  refine ⟨i + 1, ⟨nI_add i 1, by omega⟩, ?_⟩
  conv => whnf
  refine ⟨i + 2, ⟨nI_add i 2, by omega⟩, ?_⟩
  conv => whnf
  refine ⟨i + 3, ⟨nI_add i 3, by omega⟩, ?_⟩
  conv => whnf
  refine ⟨(some (.int x), h2), e2, ?_⟩
  conv => whnf
  refine ⟨fun _ => ?_, fun hn => absurd rfl hn⟩
  conv => whnf
  have e6 : nI i + 6 = nI (i + 6) := nI_add i 6
  show X (18, [some (.ref 76), some (.ref 0), some (.ref 52), some (.int (nI i + 6))], [], h2)
  rw [e6]
  exact nx h2 hj2
set_option maxHeartbeats 4000000 in
theorem lw_c22 {L : Nat} {xs : Nat → Int32} {X : ia_S → Prop} (hX : lw_cl L xs X) {i : Nat} (hi : i + 6 ≤ L) {h : ia_H} (hj : Jx h) (nx : ∀ h1, Jx h1 → X (18, lw_ls (i + 6), [], h1)) : X (793, lw_ls i, [], h) := by
  obtain ⟨r, h1, e1, r2, h2, e2, er, hj2⟩ := j_pinned hj (xs (i + 1)) (xs (i + 2))
  subst er
  obtain ⟨x, rfl⟩ := lw_ev (k := 0) (M := ia_m_X7_pinned) rfl (by decide +kernel) e1
  refine lw_wp_run hX lw_cut18 90 ?_
  conv => whnf
  refine ⟨i + 1, ⟨nI_add i 1, by omega⟩, ?_⟩
  conv => whnf
  refine ⟨i + 2, ⟨nI_add i 2, by omega⟩, ?_⟩
  conv => whnf
  refine ⟨(some (.int x), h1), e1, ?_⟩
  conv => whnf
  refine ⟨i + 1, ⟨nI_add i 1, by omega⟩, ?_⟩
  conv => whnf
  refine ⟨i + 2, ⟨nI_add i 2, by omega⟩, ?_⟩
  conv => whnf
  refine ⟨(some (.int x), h2), e2, ?_⟩
  conv => whnf
  refine ⟨fun _ => ?_, fun hn => absurd rfl hn⟩
  conv => whnf
  have e6 : nI i + 6 = nI (i + 6) := nI_add i 6
  show X (18, [some (.ref 76), some (.ref 0), some (.ref 52), some (.int (nI i + 6))], [], h2)
  rw [e6]
  exact nx h2 hj2
set_option maxHeartbeats 4000000 in
theorem lw_c23 {L : Nat} {xs : Nat → Int32} {X : ia_S → Prop} (hX : lw_cl L xs X) {i : Nat} (hi : i + 6 ≤ L) {h : ia_H} (hj : Jx h) (nx : ∀ h1, Jx h1 → X (18, lw_ls (i + 6), [], h1)) : X (826, lw_ls i, [], h) := by
  obtain ⟨r, h1, e1, r2, h2, e2, er, hj2⟩ := j_image hj (xs (i + 1))
  subst er
  obtain ⟨x, rfl⟩ := lw_ev (k := 0) (M := ia_m_X7_image) rfl (by decide +kernel) e1
  refine lw_wp_run hX lw_cut18 90 ?_
  conv => whnf
  refine ⟨i + 1, ⟨nI_add i 1, by omega⟩, ?_⟩
  conv => whnf
  refine ⟨(some (.int x), h1), e1, ?_⟩
  conv => whnf
  refine ⟨i + 1, ⟨nI_add i 1, by omega⟩, ?_⟩
  conv => whnf
  refine ⟨(some (.int x), h2), e2, ?_⟩
  conv => whnf
  refine ⟨fun _ => ?_, fun hn => absurd rfl hn⟩
  conv => whnf
  have e6 : nI i + 6 = nI (i + 6) := nI_add i 6
  show X (18, [some (.ref 76), some (.ref 0), some (.ref 52), some (.int (nI i + 6))], [], h2)
  rw [e6]
  exact nx h2 hj2
set_option maxHeartbeats 4000000 in
theorem lw_c24 {L : Nat} {xs : Nat → Int32} {X : ia_S → Prop} (hX : lw_cl L xs X) {i : Nat} (hi : i + 6 ≤ L) {h : ia_H} (hj : Jx h) (nx : ∀ h1, Jx h1 → X (18, lw_ls (i + 6), [], h1)) : X (849, lw_ls i, [], h) := by
  obtain ⟨r, h1, e1, r2, h2, e2, er, hj2⟩ := j_back hj (xs (i + 1))
  subst er
  obtain ⟨x, rfl⟩ := lw_ev (k := 0) (M := ia_m_X7_back) rfl (by decide +kernel) e1
  refine lw_wp_run hX lw_cut18 90 ?_
  conv => whnf
  refine ⟨i + 1, ⟨nI_add i 1, by omega⟩, ?_⟩
  conv => whnf
  refine ⟨(some (.int x), h1), e1, ?_⟩
  conv => whnf
  refine ⟨i + 1, ⟨nI_add i 1, by omega⟩, ?_⟩
  conv => whnf
  refine ⟨(some (.int x), h2), e2, ?_⟩
  conv => whnf
  refine ⟨fun _ => ?_, fun hn => absurd rfl hn⟩
  conv => whnf
  have e6 : nI i + 6 = nI (i + 6) := nI_add i 6
  show X (18, [some (.ref 76), some (.ref 0), some (.ref 52), some (.int (nI i + 6))], [], h2)
  rw [e6]
  exact nx h2 hj2
set_option maxHeartbeats 4000000 in
theorem lw_c25 {L : Nat} {xs : Nat → Int32} {X : ia_S → Prop} (hX : lw_cl L xs X) {i : Nat} (hi : i + 6 ≤ L) {h : ia_H} (hj : Jx h) (nx : ∀ h1, Jx h1 → X (18, lw_ls (i + 6), [], h1)) : X (872, lw_ls i, [], h) := by
  obtain ⟨r, h1, e1, r2, h2, e2, er, hj2⟩ := j_count hj (xs (i + 1))
  subst er
  obtain ⟨x, rfl⟩ := lw_ev (k := 0) (M := ia_m_X7_count) rfl (by decide +kernel) e1
  refine lw_wp_run hX lw_cut18 90 ?_
  conv => whnf
  refine ⟨i + 1, ⟨nI_add i 1, by omega⟩, ?_⟩
  conv => whnf
  refine ⟨(some (.int x), h1), e1, ?_⟩
  conv => whnf
  refine ⟨i + 1, ⟨nI_add i 1, by omega⟩, ?_⟩
  conv => whnf
  refine ⟨(some (.int x), h2), e2, ?_⟩
  conv => whnf
  refine ⟨fun _ => ?_, fun hn => absurd rfl hn⟩
  conv => whnf
  have e6 : nI i + 6 = nI (i + 6) := nI_add i 6
  show X (18, [some (.ref 76), some (.ref 0), some (.ref 52), some (.int (nI i + 6))], [], h2)
  rw [e6]
  exact nx h2 hj2
