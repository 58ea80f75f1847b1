/-! pins, class and reference side by side -/
theorem pl42 : ∀ a, a < 2 → ∀ b, b < 4 → nI a * (4 : Int32) + nI b = nI (4 * a + b) ∧ (4 : Int32) * nI a + nI b = nI (4 * a + b) := by decide +kernel
theorem bad_in {x : Int32} {n : Nat} (hn : n < 2 ^ 31) : (∃ j, j < n ∧ x = nI j) ↔ (0 ≤ x.toInt ∧ x.toInt < n) := by
  have en : (nI n).toInt = n := nI_toInt hn
  refine ⟨fun ⟨j, hj, e⟩ => ?_, fun ⟨a, b⟩ => ?_⟩
  · have := nI_toInt (show j < 2 ^ 31 by omega)
    rw [e, this]
    omega
  · rcases bad_or x hn with (q | q) | q
    · have := Int32.lt_iff_toInt_lt.mp q
      rw [show (0 : Int32).toInt = 0 by decide] at this
      omega
    · have := Int32.le_iff_toInt_le.mp q
      rw [en] at this
      omega
    · exact q
/-- isIn of a number below n -/
theorem m_isInN (h : ia_H) (x : Int32) (n : Nat) (hn : n < 2 ^ 31) (hi : Int64) (ehi : hi.toInt = n) (hj : ∃ j, j ≤ n ∧ x = nI j) : V_ 97 [.long x.toInt64, .long 0, .long hi] h (Z_ (.int 1) h) := by
  have hin := m_isIn h x.toInt64 0 hi
  obtain ⟨j, j1, rfl⟩ := hj
  have e := nI_toInt (show j < 2 ^ 31 by omega)
  rw [if_pos ((in64 (nI j) 0 hi).mpr ⟨by rw [e]; show (0 : Int) ≤ _; omega, by rw [e, ehi]; omega⟩)] at hin
  exact hin
theorem m_isInB (h : ia_H) (x : Int32) (n : Nat) (hn : n + 1 < 2 ^ 31) (hi : Int64) (ehi : hi.toInt = n) (hb : bad x (n + 1)) : V_ 97 [.long x.toInt64, .long 0, .long hi] h (Z_ (.int 0) h) := by
  have hin := m_isIn h x.toInt64 0 hi
  rw [if_neg (fun q => by
    have q := (in64 x 0 hi).mp q
    rw [ehi] at q
    have q1 : (0 : Int) ≤ x.toInt := q.1
    obtain ⟨j, j1, rfl⟩ := (bad_in (x := x) hn).mpr ⟨q1, by have := q.2; omega⟩
    rcases hb with z | z
    · exact nI_pos (by omega) z
    · exact absurd (nI_lt j1 hn) (Int32.not_lt.mpr z))] at hin
  exact hin
theorem v_isRoom1 (h : ia_H) (a b : Nat) (ha : a < 2) (hb : b < 4) : V_ 15 [.int (nI a), .int (nI b)] h (Z_ (.int 1) h) := by
  refine ia_V_in ia_k_X2_isRoom [some (.int (nI a)), some (.int (nI b))] rfl rfl (Nat.le_of_ble_eq_true rfl) rfl ?_
  refine ia_walk (fun _ => false) 60 (fun X hX => ?_)
  conv => whnf
  refine And.intro (fun c => ?_) (fun c => ?_)
  · exact absurd c (nI_pos (by omega))
  · conv => whnf
    refine And.intro (fun c2 => ?_) (fun c2 => ?_)
    · conv => whnf
      refine And.intro (fun c3 => ?_) (fun c3 => ?_)
      · exact absurd c3 (nI_pos (by omega))
      · conv => whnf
        refine And.intro (fun c4 => ?_) (fun c4 => ?_)
        · conv => whnf
          exact ⟨Or.inr rfl, rfl, rfl⟩
        · exact absurd (show nI b < nI 4 from nI_lt hb (by omega)) c4
    · exact absurd (show nI a < nI 2 from nI_lt ha (by omega)) c2
theorem v_isRoom0 (h : ia_H) (x y : Int32) (hb : bad x 2 ∨ bad y 4) : V_ 15 [.int x, .int y] h (Z_ (.int 0) h) := by
  refine ia_V_in ia_k_X2_isRoom [some (.int x), some (.int y)] rfl rfl (Nat.le_of_ble_eq_true rfl) rfl ?_
  refine ia_walk (fun _ => false) 60 (fun X hX => ?_)
  conv => whnf
  refine And.intro (fun c => ?_) (fun c => ?_)
  · conv => whnf
    exact ⟨Or.inl rfl, rfl, rfl⟩
  · conv => whnf
    refine And.intro (fun c2 => ?_) (fun c2 => ?_)
    · conv => whnf
      refine And.intro (fun c3 => ?_) (fun c3 => ?_)
      · conv => whnf
        exact ⟨Or.inl rfl, rfl, rfl⟩
      · conv => whnf
        refine And.intro (fun c4 => ?_) (fun c4 => ?_)
        · rcases hb with (q | q) | (q | q)
          · exact absurd q c
          · exact absurd c2 (Int32.not_lt.mpr (show (2 : Int32) ≤ x from q))
          · exact absurd q c3
          · exact absurd c4 (Int32.not_lt.mpr (show (4 : Int32) ≤ y from q))
        · conv => whnf
          exact ⟨Or.inl rfl, rfl, rfl⟩
    · conv => whnf
      exact ⟨Or.inl rfl, rfl, rfl⟩
/-- class and reference have the same pins -/
def pnOk (h : ia_H) : Prop := (∀ i, i < 8 → h.1 48 i = h.1 75 i) ∧ ∀ i, i < 2 → h.1 49 i = h.1 74 i
theorem q_pinned {h : ia_H} (hp : pnOk h) (x y : Int32) : Q_ 85 [.ref 0, .int x, .int y] 160 [.ref 52, .int x, .int y] h := by
  rcases bad_or x (show 2 < 2 ^ 31 by omega) with hb | ⟨a, ha, rfl⟩
  · refine ⟨.int (-1), ?_, ?_⟩
    · refine ia_V_in ia_k_X7_pinned [some (.ref 0), some (.int x), some (.int y)] rfl rfl (Nat.le_of_ble_eq_true rfl) rfl ?_
      refine ia_walk (fun _ => false) 60 (fun X hX => ?_)
      conv => whnf
      refine Exists.intro (_, _) (And.intro (ia_callE (v_isRoom0 h x y (Or.inl hb))) ?_)
      conv => whnf
      refine And.intro (fun c => ?_) (fun c => ?_)
      · conv => whnf
        exact ⟨rfl, rfl⟩
      · exact absurd rfl c
    · refine ia_V_in ia_k_X8_pinned [some (.ref 52), some (.int x), some (.int y)] rfl rfl (Nat.le_of_ble_eq_true rfl) rfl ?_
      refine ia_walk (fun _ => false) 60 (fun X hX => ?_)
      conv => whnf
      refine Exists.intro (_, _) (And.intro (ia_callE (m_isInB h x 1 (by omega) 1 (by decide) hb)) ?_)
      conv => whnf
      refine And.intro (fun c => ?_) (fun c => ?_)
      · conv => whnf
        exact ⟨rfl, rfl⟩
      · exact absurd rfl c
  · rcases bad_or y (show 4 < 2 ^ 31 by omega) with hb | ⟨b, hb, rfl⟩
    · refine ⟨.int (-1), ?_, ?_⟩
      · refine ia_V_in ia_k_X7_pinned [some (.ref 0), some (.int (nI a)), some (.int y)] rfl rfl (Nat.le_of_ble_eq_true rfl) rfl ?_
        refine ia_walk (fun _ => false) 60 (fun X hX => ?_)
        conv => whnf
        refine Exists.intro (_, _) (And.intro (ia_callE (v_isRoom0 h _ y (Or.inr hb))) ?_)
        conv => whnf
        refine And.intro (fun c => ?_) (fun c => ?_)
        · conv => whnf
          exact ⟨rfl, rfl⟩
        · exact absurd rfl c
      · refine ia_V_in ia_k_X8_pinned [some (.ref 52), some (.int (nI a)), some (.int y)] rfl rfl (Nat.le_of_ble_eq_true rfl) rfl ?_
        refine ia_walk (fun _ => false) 60 (fun X hX => ?_)
        conv => whnf
        refine Exists.intro (_, _) (And.intro (ia_callE (m_isInN h (nI a) 1 (by omega) 1 (by decide) ⟨a, by omega, rfl⟩)) ?_)
        conv => whnf
        refine And.intro (fun c => ?_) (fun c => ?_)
        · exact absurd (show (1 : Int32) = 0 from c) (by decide)
        · conv => whnf
          refine Exists.intro (_, _) (And.intro (ia_callE (m_isInB h y 3 (by omega) 3 (by decide) hb)) ?_)
          conv => whnf
          refine And.intro (fun c => ?_) (fun c => ?_)
          · conv => whnf
            exact ⟨rfl, rfl⟩
          · exact absurd rfl c
    · refine ⟨.int (h.1 48 (4 * a + b)), ?_, ?_⟩
      · have hat : V_ 17 [.ref 47, .int (nI a), .int (nI b)] h (Z_ (.int (h.1 48 (4 * a + b))) h) := by
          refine ia_V_in ia_k_X2_at [some (.ref 47), some (.int (nI a)), some (.int (nI b))] rfl rfl (Nat.le_of_ble_eq_true rfl) rfl ?_
          refine ia_walk (fun _ => false) 60 (fun X hX => ?_)
          conv => whnf
          refine Exists.intro (4 * a + b) (And.intro (And.intro ((pl42 a ha b hb).1) (by omega)) ?_)
          conv => whnf
          exact ⟨rfl, rfl⟩
        refine ia_V_in ia_k_X7_pinned [some (.ref 0), some (.int (nI a)), some (.int (nI b))] rfl rfl (Nat.le_of_ble_eq_true rfl) rfl ?_
        refine ia_walk (fun _ => false) 60 (fun X hX => ?_)
        conv => whnf
        refine Exists.intro (_, _) (And.intro (ia_callE (v_isRoom1 h a b ha hb)) ?_)
        conv => whnf
        refine And.intro (fun c => ?_) (fun c => ?_)
        · exact absurd (show (1 : Int32) = 0 from c) (by decide)
        · conv => whnf
          refine Exists.intro (_, _) (And.intro (ia_callE (hat)) ?_)
          conv => whnf
          exact ⟨rfl, rfl⟩
      · rw [hp.1 _ (by omega)]
        refine ia_V_in ia_k_X8_pinned [some (.ref 52), some (.int (nI a)), some (.int (nI b))] rfl rfl (Nat.le_of_ble_eq_true rfl) rfl ?_
        refine ia_walk (fun _ => false) 60 (fun X hX => ?_)
        conv => whnf
        refine Exists.intro (_, _) (And.intro (ia_callE (m_isInN h (nI a) 1 (by omega) 1 (by decide) ⟨a, by omega, rfl⟩)) ?_)
        conv => whnf
        refine And.intro (fun c => ?_) (fun c => ?_)
        · exact absurd (show (1 : Int32) = 0 from c) (by decide)
        · conv => whnf
          refine Exists.intro (_, _) (And.intro (ia_callE (m_isInN h (nI b) 3 (by omega) 3 (by decide) ⟨b, by omega, rfl⟩)) ?_)
          conv => whnf
          refine And.intro (fun c => ?_) (fun c => ?_)
          · exact absurd (show (1 : Int32) = 0 from c) (by decide)
          · conv => whnf
            refine Exists.intro (4 * a + b) (And.intro (And.intro ((pl42 a ha b hb).2) (by omega)) ?_)
            conv => whnf
            exact ⟨rfl, rfl⟩
