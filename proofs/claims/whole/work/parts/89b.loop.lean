theorem lw_out {L i : Nat} (hL : L ≤ 3072) (hi : i ≤ L + 6) (h : ¬ nI L - 6 < nI i) : i + 6 ≤ L := by
  have e6 : (6 : Int32).toInt = 6 := by decide
  have e : (nI L - 6).toInt = (L : Int) - 6 := by
    rw [Int32.toInt_sub, nI_toInt (by omega), e6]
    exact Int.bmod_eq_of_le (by omega) (by omega)
  rw [Int32.lt_iff_toInt_lt, e, nI_toInt (by omega)] at h
  omega
theorem lw_def {L : Nat} {xs : Nat → Int32} {X : ia_S → Prop} (hX : lw_cl L xs X) {i : Nat} {h : ia_H} (nx : X (18, lw_ls (i + 6), [], h)) : X (895, lw_ls i, [], h) := by
  refine lw_wp_run hX lw_cut18 5 ?_
  conv => whnf
  have e6 : nI i + 6 = nI (i + 6) := nI_add i 6
  show X (18, [some (.ref 76), some (.ref 0), some (.ref 52), some (.int (nI i + 6))], [], h)
  rw [e6]
  exact nx
set_option maxHeartbeats 4000000 in
theorem lw_loop {L : Nat} {xs : Nat → Int32} {X : ia_S → Prop} (hL : L ≤ 3072) (hX : lw_cl L xs X) (hE : ∀ ls h, X (902, ls, [.int 1], h)) : ∀ (n i : Nat) (h : ia_H), L + 6 - i ≤ n → i ≤ L + 6 → Jx h → X (18, lw_ls i, [], h) := by
  intro n
  induction n with
  | zero =>
    intro i h hn hi hj
    refine lw_wp_run hX (fun pc => Nat.ble 27 pc) 10 ?_
    conv => whnf
    refine ⟨fun _ => ?_, fun hc => absurd (lw_out hL hi hc) (by omega)⟩
    conv => whnf
    refine lw_wp_run hX (fun pc => Nat.beq pc 902) 3 ?_
    conv => whnf
    exact hE _ _
  | succ n ih =>
    intro i h hn hi hj
    refine lw_wp_run hX (fun pc => Nat.ble 27 pc) 10 ?_
    conv => whnf
    refine ⟨fun _ => ?_, fun hc => ?_⟩
    · conv => whnf
      refine lw_wp_run hX (fun pc => Nat.beq pc 902) 3 ?_
      conv => whnf
      exact hE _ _
    have h6 := lw_out hL hi hc
    have nx : ∀ h1, Jx h1 → X (18, lw_ls (i + 6), [], h1) := fun h1 hj1 => ih (i + 6) h1 (by omega) (by omega) hj1
    conv => whnf
    refine lw_wp_run hX (fun pc => Nat.ble 152 pc) 12 ?_
    conv => whnf
    refine ⟨i, ⟨rfl, by omega⟩, ?_⟩
    conv => whnf
    refine ⟨fun _ => lw_c0 hX h6 hj nx, fun _ => ?_⟩
    conv => whnf
    refine ⟨fun _ => lw_c1 hX h6 hj nx, fun _ => ?_⟩
    conv => whnf
    refine ⟨fun _ => lw_c2 hX h6 hj nx, fun _ => ?_⟩
    conv => whnf
    refine ⟨fun _ => lw_c3 hX h6 hj nx, fun _ => ?_⟩
    conv => whnf
    refine ⟨fun _ => lw_c4 hX h6 hj nx, fun _ => ?_⟩
    conv => whnf
    refine ⟨fun _ => lw_c5 hX h6 hj nx, fun _ => ?_⟩
    conv => whnf
    refine ⟨fun _ => lw_c6 hX h6 hj nx, fun _ => ?_⟩
    conv => whnf
    refine ⟨fun _ => lw_c7 hX h6 hj nx, fun _ => ?_⟩
    conv => whnf
    refine ⟨fun _ => lw_c8 hX h6 hj nx, fun _ => ?_⟩
    conv => whnf
    refine ⟨fun _ => lw_c9 hX h6 hj nx, fun _ => ?_⟩
    conv => whnf
    refine ⟨fun _ => lw_c10 hX h6 hj nx, fun _ => ?_⟩
    conv => whnf
    refine ⟨fun _ => lw_c11 hX h6 hj nx, fun _ => ?_⟩
    conv => whnf
    refine ⟨fun _ => lw_c12 hX h6 hj nx, fun _ => ?_⟩
    conv => whnf
    refine ⟨fun _ => lw_c13 hX h6 hj nx, fun _ => ?_⟩
    conv => whnf
    refine ⟨fun _ => lw_c14 hX h6 hj nx, fun _ => ?_⟩
    conv => whnf
    refine ⟨fun _ => lw_c15 hX h6 hj nx, fun _ => ?_⟩
    conv => whnf
    refine ⟨fun _ => lw_c16 hX h6 hj nx, fun _ => ?_⟩
    conv => whnf
    refine ⟨fun _ => lw_c17 hX h6 hj nx, fun _ => ?_⟩
    conv => whnf
    refine ⟨fun _ => lw_c18 hX h6 hj nx, fun _ => ?_⟩
    conv => whnf
    refine ⟨fun _ => lw_c19 hX h6 hj nx, fun _ => ?_⟩
    conv => whnf
    refine ⟨fun _ => lw_c20 hX h6 hj nx, fun _ => ?_⟩
    conv => whnf
    refine ⟨fun _ => lw_c21 hX h6 hj nx, fun _ => ?_⟩
    conv => whnf
    refine ⟨fun _ => lw_c22 hX h6 hj nx, fun _ => ?_⟩
    conv => whnf
    refine ⟨fun _ => lw_c23 hX h6 hj nx, fun _ => ?_⟩
    conv => whnf
    refine ⟨fun _ => lw_c24 hX h6 hj nx, fun _ => ?_⟩
    conv => whnf
    refine ⟨fun _ => lw_c25 hX h6 hj nx, fun _ => ?_⟩
    conv => whnf
    exact lw_def hX (nx h hj)
