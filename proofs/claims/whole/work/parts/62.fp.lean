/-! doubles that are whole: sums of longs -/
theorem fp_qmin : Jvm.FP.Core.b64.qmin = -1074 := by decide
theorem fp_qmax : Jvm.FP.Core.b64.qmax = 971 := by decide
theorem fp_tails : Jvm.FP.Core.b64.tails = 4503599627370496 := by decide
theorem fp_qu_le {A B : Nat} {e Q : Int} (hA : 0 < A) (hB : 0 < B) (h1 : -1074 ≤ Q) (h : Jvm.FP.Core.Below A B (Q - e + 53)) : Jvm.FP.Core.quantum Jvm.FP.Core.b64 A B e ≤ Q := by
  have := Jvm.FP.Core.lt_of_below (Jvm.FP.Core.leading_spec hA hB).1 h
  unfold Jvm.FP.Core.quantum
  rw [fp_qmin]
  have e : ((Jvm.FP.Core.b64.p : Nat) : Int) = 53 := rfl
  rw [e]
  omega
theorem fp_qu_ge {A B : Nat} {e Q : Int} (hA : 0 < A) (hB : 0 < B) (h : ¬ Jvm.FP.Core.Below A B (Q - e + 52)) : Q ≤ Jvm.FP.Core.quantum Jvm.FP.Core.b64 A B e := by
  have := Jvm.FP.Core.lt_of_below h (Jvm.FP.Core.leading_spec hA hB).2
  unfold Jvm.FP.Core.quantum
  have e : ((Jvm.FP.Core.b64.p : Nat) : Int) = 53 := rfl
  rw [e]
  omega
/-- what rounding gives, once the last digit's exponent is bounded -/
theorem fp_rr {s : Bool} {A B : Nat} {e Q : Int} (hA : 0 < A) (hB : 0 < B) (hQ : Q ≤ 970) (hq : Jvm.FP.Core.quantum Jvm.FP.Core.b64 A B e ≤ Q) : ∃ c q, Jvm.FP.Core.roundRatio Jvm.FP.Core.b64 s A B e = .fin s c q ∧ ((c = Jvm.FP.Core.nearest (Jvm.FP.Core.unitsNum A e q) (Jvm.FP.Core.unitsDen B e q) ∧ q = Jvm.FP.Core.quantum Jvm.FP.Core.b64 A B e) ∨ (c = 4503599627370496 ∧ q = Jvm.FP.Core.quantum Jvm.FP.Core.b64 A B e + 1 ∧ 9007199254740992 ≤ Jvm.FP.Core.nearest (Jvm.FP.Core.unitsNum A e (Jvm.FP.Core.quantum Jvm.FP.Core.b64 A B e)) (Jvm.FP.Core.unitsDen B e (Jvm.FP.Core.quantum Jvm.FP.Core.b64 A B e)))) ∧ c < 9007199254740992 ∧ (q = -1074 ∨ 4503599627370496 ≤ c) := by
  have hfit := Jvm.FP.Core.roundRatio_fits Jvm.FP.Core.good_b64 s A hB e
  have hqm : Jvm.FP.Core.b64.qmax = 971 := fp_qmax
  have h53 : 2 ^ Jvm.FP.Core.b64.p = 9007199254740992 := by decide
  have key : ∃ c q, Jvm.FP.Core.roundRatio Jvm.FP.Core.b64 s A B e = .fin s c q ∧ ((c = Jvm.FP.Core.nearest (Jvm.FP.Core.unitsNum A e q) (Jvm.FP.Core.unitsDen B e q) ∧ q = Jvm.FP.Core.quantum Jvm.FP.Core.b64 A B e) ∨ (c = 4503599627370496 ∧ q = Jvm.FP.Core.quantum Jvm.FP.Core.b64 A B e + 1 ∧ 9007199254740992 ≤ Jvm.FP.Core.nearest (Jvm.FP.Core.unitsNum A e (Jvm.FP.Core.quantum Jvm.FP.Core.b64 A B e)) (Jvm.FP.Core.unitsDen B e (Jvm.FP.Core.quantum Jvm.FP.Core.b64 A B e)))) := by
    unfold Jvm.FP.Core.roundRatio
    rw [if_neg (show ¬ A = 0 by omega)]
    unfold Jvm.FP.Core.roundAt Jvm.FP.Core.settle
    by_cases h1 : Jvm.FP.Core.nearest (Jvm.FP.Core.unitsNum A e (Jvm.FP.Core.quantum Jvm.FP.Core.b64 A B e)) (Jvm.FP.Core.unitsDen B e (Jvm.FP.Core.quantum Jvm.FP.Core.b64 A B e)) < 2 ^ Jvm.FP.Core.b64.p
    · rw [if_pos h1]
      unfold Jvm.FP.Core.bound
      rw [if_pos (by omega)]
      exact ⟨_, _, rfl, Or.inl ⟨rfl, rfl⟩⟩
    · rw [if_neg h1]
      unfold Jvm.FP.Core.bound
      rw [if_pos (by omega)]
      exact ⟨_, _, rfl, Or.inr ⟨fp_tails, rfl, by omega⟩⟩
  obtain ⟨c, q, k1, k2⟩ := key
  rw [k1] at hfit
  obtain ⟨f1, f2, f3, f4⟩ := hfit
  rw [h53] at f1
  rw [fp_qmin, fp_tails] at f4
  exact ⟨c, q, k1, k2, f1, f4⟩
def ivD (d : Jvm.FP.Core.Datum) (K : Int) : Prop := ∃ s c q, d = .fin s c q ∧ (c = 0 → s = false) ∧ (q < 0 → 2 ^ (-q).toNat ∣ c) ∧ c < 9007199254740992 ∧ q ≤ K ∧ (q = -1074 ∨ 4503599627370496 ≤ c)
/-- a double that is whole, not the negative zero -/
def iv (x : UInt64) (K : Int) : Prop := ivD (Jvm.FP.Core.val64 x) K
theorem fp_exact {A : Nat} {e q : Int} (hq : q < 0) (he : e < 0 → 2 ^ (-e).toNat ∣ A) : ∃ k, Jvm.FP.Core.unitsNum A e q = k * 2 ^ (-q).toNat * Jvm.FP.Core.unitsDen 1 e q ∧ (A ≠ 0 → k ≠ 0) := by
  unfold Jvm.FP.Core.unitsNum Jvm.FP.Core.unitsDen
  rw [Nat.one_mul]
  by_cases h0 : e < 0
  · obtain ⟨k, hk⟩ := he h0
    refine ⟨k, ?_, fun hA hk0 => hA (by rw [hk, hk0, Nat.mul_zero])⟩
    rw [hk, Nat.mul_comm _ k, Nat.mul_assoc, ← Nat.pow_add, Nat.mul_assoc, ← Nat.pow_add]
    congr 2
    omega
  · refine ⟨A * 2 ^ e.toNat, ?_, fun hA => ?_⟩
    · rw [Nat.mul_assoc, Nat.mul_assoc, ← Nat.pow_add, ← Nat.pow_add]
      congr 2
      omega
    · have : 0 < 2 ^ e.toNat := Nat.two_pow_pos _
      exact Nat.mul_ne_zero hA (by omega)
theorem fp_whole {s : Bool} {A : Nat} {e K : Int} (he : e < 0 → 2 ^ (-e).toNat ∣ A) (h0 : A = 0 → s = false) (hK0 : 0 ≤ K) (hK : K ≤ 970) (hA : Jvm.FP.Core.Below A 1 (K - e + 53)) : ivD (Jvm.FP.Core.roundRatio Jvm.FP.Core.b64 s A 1 e) (K + 1) := by
  by_cases hz : A = 0
  · refine ⟨s, 0, Jvm.FP.Core.b64.qmin, ?_, fun _ => h0 hz, fun _ => Nat.dvd_zero _, by decide, by rw [fp_qmin]; omega, Or.inl fp_qmin⟩
    unfold Jvm.FP.Core.roundRatio
    rw [if_pos hz]
  · have hq := fp_qu_le (e := e) (Q := K) (by omega) (by decide) (by omega) hA
    obtain ⟨c, q, r1, r2, r3, r4⟩ := fp_rr (s := s) (by omega) (by decide) hK hq
    refine ⟨s, c, q, r1, fun hc => ?_, fun hq0 => ?_, r3, ?_, r4⟩
    · -- never 0
      exfalso
      rcases r4 with r4 | r4
      · rcases r2 with ⟨z1, z2⟩ | ⟨z1, -⟩
        · obtain ⟨k, k1, k2⟩ := fp_exact (A := A) (e := e) (q := q) (by omega) he
          rw [k1, Jvm.FP.Core.nearest_exact _ (Jvm.FP.Core.unitsDen_pos (by decide) _ _)] at z1
          have := k2 hz
          have h2 : 0 < 2 ^ (-q).toNat := Nat.two_pow_pos _
          rw [z1] at hc
          exact Nat.mul_ne_zero this (by omega) hc
        · omega
      · omega
    · rcases r2 with ⟨z1, z2⟩ | ⟨z1, z2, z3⟩
      · obtain ⟨k, k1, -⟩ := fp_exact (A := A) (e := e) (q := q) hq0 he
        rw [k1, Jvm.FP.Core.nearest_exact _ (Jvm.FP.Core.unitsDen_pos (by decide) _ _)] at z1
        rw [z1]
        exact Nat.dvd_mul_left _ _
      · obtain ⟨k, k1, -⟩ := fp_exact (A := A) (e := e) (q := Jvm.FP.Core.quantum Jvm.FP.Core.b64 A 1 e) (by omega) he
        have hle := Jvm.FP.Core.nearest_units_le (f := Jvm.FP.Core.b64) (A := A) (B := 1) (by omega) (by decide) e
        rw [k1, Jvm.FP.Core.nearest_exact _ (Jvm.FP.Core.unitsDen_pos (by decide) _ _)] at z3 hle
        have h53 : 2 ^ Jvm.FP.Core.b64.p = 2 ^ 53 := rfl
        rw [h53] at hle
        have e53 : k * 2 ^ (-Jvm.FP.Core.quantum Jvm.FP.Core.b64 A 1 e).toNat = 2 ^ 53 := by omega
        have hd : 2 ^ (-Jvm.FP.Core.quantum Jvm.FP.Core.b64 A 1 e).toNat ∣ 2 ^ 53 := by rw [← e53]; exact Nat.dvd_mul_left _ _
        have hle2 := (Nat.pow_dvd_pow_iff_le_right (by decide : 1 < 2)).mp hd
        rw [z1, show (4503599627370496 : Nat) = 2 ^ 52 by decide]
        exact Nat.pow_dvd_pow 2 (by omega)
    · rcases r2 with ⟨-, z2⟩ | ⟨-, z2, -⟩ <;> omega
theorem below_pos {A B : Nat} {a : Int} (ha : 0 ≤ a) (h : A < B * 2 ^ a.toNat) : Jvm.FP.Core.Below A B a := by
  unfold Jvm.FP.Core.Below
  rw [show (-a).toNat = 0 by omega, Nat.pow_zero, Nat.mul_one]
  exact h
theorem iv_l2d (a : Int64) : iv (FP.l2d a) 12 := by
  have h1 : Jvm.FP.Core.val64 (FP.l2d a) = Jvm.FP.Core.roundRatio Jvm.FP.Core.b64 (decide (a.toInt < 0)) a.toInt.natAbs 1 0 := Jvm.FP.Core.val64_l2d a
  have h2 := Int64.le_toInt a
  have h3 := Int64.toInt_lt a
  unfold iv
  rw [h1]
  refine fp_whole (K := 11) (fun h => absurd h (by decide)) (fun h => decide_eq_false (by omega)) (by decide) (by decide) (below_pos (by decide) ?_)
  have : (2 : Nat) ^ ((11 : Int) - 0 + 53).toNat = 18446744073709551616 := by decide
  rw [this]
  omega
theorem fp_units {c : Nat} {q e : Int} (hqe : e ≤ q) (he : e < 0) (h : q < 0 → 2 ^ (-q).toNat ∣ c) : 2 ^ (-e).toNat ∣ Jvm.FP.Core.inUnits c q e := by
  unfold Jvm.FP.Core.inUnits
  by_cases hq : q < 0
  · obtain ⟨k, hk⟩ := h hq
    refine ⟨k, ?_⟩
    rw [hk, Nat.mul_right_comm, ← Nat.pow_add]
    congr 2
    omega
  · refine ⟨c * 2 ^ q.toNat, ?_⟩
    rw [Nat.mul_left_comm, ← Nat.pow_add]
    congr 2
    omega
theorem fp_sdvd {s : Bool} {c k : Nat} (h : k ∣ c) : (k : Int) ∣ Jvm.FP.Core.signed s c := by
  unfold Jvm.FP.Core.signed
  cases s
  · exact Int.ofNat_dvd.mpr h
  · exact Int.dvd_neg.mpr (Int.ofNat_dvd.mpr h)
theorem fp_un {c : Nat} {q e K : Int} (hc : c < 9007199254740992) (hq : q ≤ K) (he : e ≤ q) : Jvm.FP.Core.inUnits c q e < 2 ^ (K - e + 53).toNat := by
  unfold Jvm.FP.Core.inUnits
  have h1 : 2 ^ (K - e + 53).toNat = 2 ^ (K - q).toNat * (2 ^ 53 * 2 ^ (q - e).toNat) := by
    rw [← Nat.pow_add, ← Nat.pow_add]
    congr 1
    omega
  rw [h1]
  have h2 : 1 ≤ 2 ^ (K - q).toNat := Nat.two_pow_pos _
  have h3 : 0 < 2 ^ (q - e).toNat := Nat.two_pow_pos _
  calc c * 2 ^ (q - e).toNat < 2 ^ 53 * 2 ^ (q - e).toNat := Nat.mul_lt_mul_of_pos_right hc h3
    _ = 1 * (2 ^ 53 * 2 ^ (q - e).toNat) := (Nat.one_mul _).symm
    _ ≤ 2 ^ (K - q).toNat * (2 ^ 53 * 2 ^ (q - e).toNat) := Nat.mul_le_mul_right _ h2
theorem iv_dadd {x y : UInt64} {K : Int} (hK0 : 0 ≤ K) (hK : K ≤ 900) (hx : iv x K) (hy : iv y K) : iv (FP.dadd x y) (K + 2) := by
  obtain ⟨s, c, q, x1, x2, x3, x4, x5, x6⟩ := hx
  obtain ⟨t, d, r, y1, y2, y3, y4, y5, y6⟩ := hy
  have h1 : Jvm.FP.Core.val64 (FP.dadd x y) = Jvm.FP.Core.roundRatio Jvm.FP.Core.b64 (Jvm.FP.Core.sumSign s t (Jvm.FP.Core.sumUnits s c q t d r (min q r))) (Jvm.FP.Core.sumUnits s c q t d r (min q r)).natAbs 1 (min q r) := by
    rw [Jvm.FP.Core.val64_dadd x y, x1, y1]
    rfl
  have eq1 : min q r ≤ q := Int.min_le_left _ _
  have er1 : min q r ≤ r := Int.min_le_right _ _
  unfold iv
  rw [h1, show K + 2 = (K + 1) + 1 by omega]
  refine fp_whole (fun he => ?_) (fun hz => ?_) (by omega) (by omega) (below_pos (by omega) ?_)
  · have d1 := fp_sdvd (s := s) (fp_units eq1 he x3)
    have d2 := fp_sdvd (s := t) (fp_units er1 he y3)
    have := Int.dvd_add d1 d2
    exact Int.natAbs_dvd_natAbs.mpr this
  · have hz : Jvm.FP.Core.sumUnits s c q t d r (min q r) = 0 := Int.natAbs_eq_zero.mp hz
    unfold Jvm.FP.Core.sumSign
    rw [if_pos hz]
    cases hs : s
    · rfl
    · cases ht : t
      · rfl
      · exfalso
        have hc : 0 < c := Nat.pos_of_ne_zero (fun q => by rw [x2 q] at hs; cases hs)
        have hd : 0 < d := Nat.pos_of_ne_zero (fun q => by rw [y2 q] at ht; cases ht)
        subst hs ht
        unfold Jvm.FP.Core.sumUnits Jvm.FP.Core.signed Jvm.FP.Core.inUnits at hz
        have p1 : 0 < c * 2 ^ (q - min q r).toNat := Nat.mul_pos hc (Nat.two_pow_pos _)
        have p2 : 0 < d * 2 ^ (r - min q r).toNat := Nat.mul_pos hd (Nat.two_pow_pos _)
        simp only [if_true] at hz
        omega
  · have u1 := fp_un x4 x5 eq1
    have u2 := fp_un y4 y5 er1
    have e2 : 2 ^ (K + 1 - min q r + 53).toNat = 2 * 2 ^ (K - min q r + 53).toNat := by
      rw [← Nat.pow_succ']
      congr 1
      omega
    rw [Nat.one_mul, e2]
    have : (Jvm.FP.Core.sumUnits s c q t d r (min q r)).natAbs ≤ Jvm.FP.Core.inUnits c q (min q r) + Jvm.FP.Core.inUnits d r (min q r) := by
      unfold Jvm.FP.Core.sumUnits
      refine Nat.le_trans (Int.natAbs_add_le _ _) ?_
      rw [Jvm.FP.Core.natAbs_signed, Jvm.FP.Core.natAbs_signed]
      exact Nat.le_refl _
    omega
theorem iv_mono {x : UInt64} {K L : Int} (h : iv x K) (hl : K ≤ L) : iv x L := by
  obtain ⟨s, c, q, h1, h2, h3, h4, h5, h6⟩ := h
  exact ⟨s, c, q, h1, h2, h3, h4, by omega, h6⟩
theorem fp_n {x : UInt64} (h : Jvm.FP.Core.DFin x) : vf_n64 x := by
  unfold vf_n64
  have h := (Jvm.FP.Core.fin_bits x).mp h
  rw [UInt64.le_iff_toNat_le, UInt64.toNat_and]
  have e1 : (9223372036854775807 : UInt64).toNat = 2 ^ 63 - 1 := by decide
  have e2 : (9218868437227405312 : UInt64).toNat = 9218868437227405312 := by decide
  rw [e1, e2, Nat.and_two_pow_sub_one_eq_mod]
  omega
theorem iv_n {x : UInt64} {K : Int} (h : iv x K) : vf_n64 x := by
  obtain ⟨s, c, q, h1, -⟩ := h
  exact fp_n ⟨s, c, q, h1⟩
