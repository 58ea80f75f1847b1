/-! order and span: the reference's row, sorted -/
def ahd (O : Nat → Int64) (a b : Nat) : Bool := decide (O a < O b) || (decide (O a = O b) && decide (a < b))
theorem ahd_i (O : Nat → Int64) (a b : Nat) : ahd O a b = true ↔ ((O a).toInt < (O b).toInt ∨ ((O a).toInt = (O b).toInt ∧ a < b)) := by
  unfold ahd
  rw [Bool.or_eq_true, Bool.and_eq_true, decide_eq_true_iff, decide_eq_true_iff, decide_eq_true_iff, Int64.lt_iff_toInt_lt, Int64.toInt_inj]
theorem ahd_f (O : Nat → Int64) (a b : Nat) : ahd O a b = false ↔ ¬ ((O a).toInt < (O b).toInt ∨ ((O a).toInt = (O b).toInt ∧ a < b)) := by
  rw [← ahd_i]
  cases ahd O a b <;> decide
theorem m_isAhead (h : ia_H) (a b : Nat) (ha : a < 41) (hb : b < 41) : V_ 143 [.ref 52, .int (nI a), .int (nI b)] h (Z_ (.int (bif ahd (h.2 61) a b then 1 else 0)) h) := by
  refine ia_V_in ia_k_X8_isAhead [some (.ref 52), some (.int (nI a)), some (.int (nI b))] rfl rfl (Nat.le_of_ble_eq_true rfl) rfl ?_
  refine ia_walk (fun _ => false) 60 (fun X hX => ?_)
  conv => whnf
  refine Exists.intro _ (And.intro (And.intro rfl (by omega)) ?_)
  conv => whnf
  refine Exists.intro _ (And.intro (And.intro rfl (by omega)) ?_)
  conv => whnf
  refine And.intro (fun c => ?_) (fun c => ?_)
  · conv => whnf
    have c : h.2 61 a < h.2 61 b := (lg_cmp_lt _ _).mp c
    have e : ahd (h.2 61) a b = true := by unfold ahd; rw [decide_eq_true c]; rfl
    rw [e]
    exact ⟨Or.inr rfl, rfl, rfl⟩
  · have c : ¬ h.2 61 a < h.2 61 b := fun q => c ((lg_cmp_lt _ _).mpr q)
    conv => whnf
    refine Exists.intro _ (And.intro (And.intro rfl (by omega)) ?_)
    conv => whnf
    refine Exists.intro _ (And.intro (And.intro rfl (by omega)) ?_)
    conv => whnf
    refine And.intro (fun c2 => ?_) (fun c2 => ?_)
    · have c2 : h.2 61 a = h.2 61 b := (lg_cmp_eq _ _).mp c2
      conv => whnf
      refine And.intro (fun c3 => ?_) (fun c3 => ?_)
      · have c3 : a < b := (nI_ltI (by omega) (by omega)).mp c3
        conv => whnf
        have e : ahd (h.2 61) a b = true := by unfold ahd; rw [decide_eq_true c2, decide_eq_true c3]; exact Bool.or_true _
        rw [e]
        exact ⟨Or.inr rfl, rfl, rfl⟩
      · have c3 : ¬ a < b := fun q => c3 (nI_lt q (by omega))
        conv => whnf
        have e : ahd (h.2 61) a b = false := by unfold ahd; rw [decide_eq_false c, decide_eq_false c3]; exact Bool.and_false _
        rw [e]
        exact ⟨Or.inl rfl, rfl, rfl⟩
    · have c2 : ¬ h.2 61 a = h.2 61 b := fun q => c2 ((lg_cmp_eq _ _).mpr q)
      conv => whnf
      have e : ahd (h.2 61) a b = false := by unfold ahd; rw [decide_eq_false c, decide_eq_false c2]; rfl
      rw [e]
      exact ⟨Or.inl rfl, rfl, rfl⟩
theorem ct_one {p px : Nat → Bool} {x : Nat} (hx : px x = false) : ∀ m, (∀ j, j < m → p j = (px j || decide (j = x))) → (x < m → ct p m = ct px m + 1) ∧ (m ≤ x → ct p m = ct px m)
  | 0, _ => ⟨fun h => absurd h (Nat.not_lt_zero x), fun _ => rfl⟩
  | m + 1, h => by
    obtain ⟨i1, i2⟩ := ct_one (p := p) hx m (fun j hj => h j (by omega))
    have e := h m (by omega)
    refine ⟨fun hm => ?_, fun hm => ?_⟩
    · by_cases q : x = m
      · subst q
        rw [ct_t (by rw [e, decide_eq_true rfl]; exact Bool.or_true _), ct_f hx, i2 (Nat.le_refl _)]
      · have e2 : p m = px m := by rw [e, decide_eq_false (fun z => q z.symm), Bool.or_false]
        rw [ct, ct, e2, i1 (by omega)]
        omega
    · have e2 : p m = px m := by rw [e, decide_eq_false (by omega), Bool.or_false]
      rw [ct, ct, e2, i2 (by omega)]
/-- the first g gauges' part of a group, in order -/
def orI (O : Nat → Int64) (inG : Nat → Bool) (g n : Nat) (q : Nat → Nat) : Prop := n ≤ g ∧ (∀ i, i < n → q i < g ∧ inG (q i) = true) ∧ (∀ j, j < g → inG j = true → ∃ i, i < n ∧ q i = j) ∧ (∀ i k, i < k → k < n → ahd O (q i) (q k) = true) ∧ (∀ i, i < n → ct (fun j => inG j && ahd O j (q i)) g = i)
def orQ (q : Nat → Nat) (k g : Nat) : Nat → Nat := fun i => if i < k then q i else if i = k then g else q (i - 1)
theorem orI_skip {O : Nat → Int64} {inG : Nat → Bool} {g n : Nat} {q : Nat → Nat} (h : orI O inG g n q) (hg : inG g = false) : orI O inG (g + 1) n q := by
  obtain ⟨h1, h2, h3, h4, h5⟩ := h
  refine ⟨by omega, fun i hi => ⟨by have := (h2 i hi).1; omega, (h2 i hi).2⟩, fun j hj hin => ?_, h4, fun i hi => ?_⟩
  · by_cases e : j = g
    · rw [e, hg] at hin; cases hin
    · exact h3 j (by omega) hin
  · rw [ct_f (by rw [hg]; rfl)]; exact h5 i hi
theorem orI_put {O : Nat → Int64} {inG : Nat → Bool} {g n k : Nat} {q : Nat → Nat} (h : orI O inG g n q) (hg : inG g = true) (hk : k ≤ n) (hlo : ∀ i, i < k → ahd O (q i) g = true) (hhi : ∀ i, k ≤ i → i < n → ahd O g (q i) = true) : orI O inG (g + 1) (n + 1) (orQ q k g) := by
  obtain ⟨h1, h2, h3, h4, h5⟩ := h
  have qa : ∀ i, i < k → orQ q k g i = q i := fun i hi => if_pos hi
  have qb : orQ q k g k = g := by unfold orQ; rw [if_neg (Nat.lt_irrefl k), if_pos rfl]
  have qc : ∀ i, k < i → orQ q k g i = q (i - 1) := fun i hi => by unfold orQ; rw [if_neg (by omega), if_neg (by omega)]
  have own : ct (fun j => inG j && ahd O j g) g = k := by
    by_cases k0 : k = 0
    · rw [k0]
      refine ct_none (fun j hj => ?_)
      cases hin : inG j
      · rfl
      · obtain ⟨i, i1, i2⟩ := h3 j hj hin
        have := (ahd_i _ _ _).mp (hhi i (by omega) i1)
        rw [i2] at this
        show ahd O j g = false
        exact (ahd_f _ _ _).mpr (by omega)
    · have hx := h2 (k - 1) (by omega)
      have hxx : (inG (q (k - 1)) && ahd O (q (k - 1)) (q (k - 1))) = false := by
        rw [(ahd_f O (q (k - 1)) (q (k - 1))).mpr (by omega)]; exact Bool.and_false _
      have c1 := (ct_one (p := fun j => inG j && ahd O j g) (px := fun j => inG j && ahd O j (q (k - 1))) hxx g (fun j hj => by
        cases hin : inG j
        · show false = (false || decide (j = q (k - 1)))
          rw [decide_eq_false (fun e => by rw [e, hx.2] at hin; cases hin)]
          rfl
        · obtain ⟨i, i1, i2⟩ := h3 j hj hin
          show ahd O j g = (ahd O j (q (k - 1)) || decide (j = q (k - 1)))
          by_cases z1 : i < k - 1
          · have a1 := h4 i (k - 1) z1 (by omega)
            have a2 := hlo i (by omega)
            rw [i2] at a1 a2
            rw [a1, a2]; rfl
          · by_cases z2 : i = k - 1
            · have a2 := hlo i (by omega)
              rw [i2] at a2
              rw [a2, decide_eq_true (by rw [← i2, z2])]
              exact (Bool.or_true _).symm
            · have a1 := (ahd_i _ _ _).mp (h4 (k - 1) i (by omega) i1)
              have a2 := (ahd_i _ _ _).mp (hhi i (by omega) i1)
              rw [i2] at a1 a2
              rw [(ahd_f O j g).mpr (by omega), (ahd_f O j (q (k - 1))).mpr (by omega), decide_eq_false (fun e => by rw [← e] at a1; omega)]
              rfl)).1 hx.1
      rw [c1, h5 (k - 1) (by omega)]
      omega
  refine ⟨by omega, fun i hi => ?_, fun j hj hin => ?_, fun i i2 hi hi2 => ?_, fun i hi => ?_⟩
  · by_cases z1 : i < k
    · rw [qa i z1]; exact ⟨by have := (h2 i (by omega)).1; omega, (h2 i (by omega)).2⟩
    · by_cases z2 : i = k
      · rw [z2, qb]; exact ⟨by omega, hg⟩
      · rw [qc i (by omega)]; exact ⟨by have := (h2 (i - 1) (by omega)).1; omega, (h2 (i - 1) (by omega)).2⟩
  · by_cases e : j = g
    · exact ⟨k, by omega, by rw [qb, e]⟩
    · obtain ⟨i, i1, i2⟩ := h3 j (by omega) hin
      by_cases z1 : i < k
      · exact ⟨i, by omega, by rw [qa i z1]; exact i2⟩
      · exact ⟨i + 1, by omega, by rw [qc (i + 1) (by omega)]; exact i2⟩
  · by_cases z1 : i2 < k
    · rw [qa i (by omega), qa i2 z1]; exact h4 i i2 hi (by omega)
    · by_cases z2 : i2 = k
      · rw [z2, qb, qa i (by omega)]; exact hlo i (by omega)
      · rw [qc i2 (by omega)]
        by_cases y1 : i < k
        · rw [qa i y1]; exact h4 i (i2 - 1) (by omega) (by omega)
        · by_cases y2 : i = k
          · rw [y2, qb]; exact hhi (i2 - 1) (by omega) (by omega)
          · rw [qc i (by omega)]; exact h4 (i - 1) (i2 - 1) (by omega) (by omega)
  · by_cases z1 : i < k
    · rw [qa i z1]
      have a2 := (ahd_i _ _ _).mp (hlo i z1)
      rw [ct_f (by rw [(ahd_f O g (q i)).mpr (by omega)]; exact Bool.and_false _)]
      exact h5 i (by omega)
    · by_cases z2 : i = k
      · rw [z2, qb, ct_f (by rw [(ahd_f O g g).mpr (by omega)]; exact Bool.and_false _)]
        exact own
      · rw [qc i (by omega), ct_t (by rw [hhi (i - 1) (by omega) (by omega), hg]; rfl), h5 (i - 1) (by omega)]
        omega
