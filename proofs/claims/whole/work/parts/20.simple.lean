/-! Small questions, class and reference side by side -/
/-- x is no number below n -/
def bad (x : Int32) (n : Nat) : Prop := x < 0 ∨ nI n ≤ x
theorem bad_or (x : Int32) {n : Nat} (hn : n < 2 ^ 31) : bad x n ∨ ∃ j, j < n ∧ x = nI j := by
  rcases pk_ix x hn with q | q | q
  · exact Or.inl (Or.inl q)
  · exact Or.inl (Or.inr q)
  · exact Or.inr q
theorem v_isSt0 {h : ia_H} {n : Nat} (e : h.1 4 7 = nI n) {x : Int32} (hb : bad x n) : V_ 89 [.ref 0, .int x] h (Z_ (.int 0) h) := by
  refine ia_V_in ia_k_X7_isStatement [some (.ref 0), some (.int x)] rfl rfl (Nat.le_of_ble_eq_true rfl) rfl ?_
  refine ia_walk (fun _ => false) 50 (fun X hX => ?_)
  conv => whnf
  refine And.intro (fun c => ?_) (fun c => ?_)
  · conv => whnf
    exact ⟨Or.inl rfl, rfl, rfl⟩
  · conv => whnf
    refine And.intro (fun c2 => ?_) (fun c2 => ?_)
    · rcases hb with q | q
      · exact absurd q c
      · exact absurd (show x < h.1 4 7 from c2) (by rw [e]; exact Int32.not_lt.mpr q)
    · conv => whnf
      exact ⟨Or.inl rfl, rfl, rfl⟩
theorem v_isSt1 {h : ia_H} {n : Nat} (e : h.1 4 7 = nI n) (hn : n < 2 ^ 31) {j : Nat} (hj : j < n) : V_ 89 [.ref 0, .int (nI j)] h (Z_ (.int 1) h) := by
  refine ia_V_in ia_k_X7_isStatement [some (.ref 0), some (.int (nI j))] rfl rfl (Nat.le_of_ble_eq_true rfl) rfl ?_
  refine ia_walk (fun _ => false) 50 (fun X hX => ?_)
  conv => whnf
  refine And.intro (fun c => ?_) (fun c => ?_)
  · exact absurd c (nI_pos (by omega))
  · conv => whnf
    refine And.intro (fun c2 => ?_) (fun c2 => ?_)
    · conv => whnf
      exact ⟨Or.inr rfl, rfl, rfl⟩
    · exact absurd (show nI j < h.1 4 7 by rw [e]; exact nI_lt hj hn) c2
theorem v_isGa0 {h : ia_H} {n : Nat} (e : h.1 4 6 = nI n) {x : Int32} (hb : bad x n) : V_ 90 [.ref 0, .int x] h (Z_ (.int 0) h) := by
  refine ia_V_in ia_k_X7_isGauge [some (.ref 0), some (.int x)] rfl rfl (Nat.le_of_ble_eq_true rfl) rfl ?_
  refine ia_walk (fun _ => false) 50 (fun X hX => ?_)
  conv => whnf
  refine And.intro (fun c => ?_) (fun c => ?_)
  · conv => whnf
    exact ⟨Or.inl rfl, rfl, rfl⟩
  · conv => whnf
    refine And.intro (fun c2 => ?_) (fun c2 => ?_)
    · rcases hb with q | q
      · exact absurd q c
      · exact absurd (show x < h.1 4 6 from c2) (by rw [e]; exact Int32.not_lt.mpr q)
    · conv => whnf
      exact ⟨Or.inl rfl, rfl, rfl⟩
theorem v_isGa1 {h : ia_H} {n : Nat} (e : h.1 4 6 = nI n) (hn : n < 2 ^ 31) {j : Nat} (hj : j < n) : V_ 90 [.ref 0, .int (nI j)] h (Z_ (.int 1) h) := by
  refine ia_V_in ia_k_X7_isGauge [some (.ref 0), some (.int (nI j))] rfl rfl (Nat.le_of_ble_eq_true rfl) rfl ?_
  refine ia_walk (fun _ => false) 50 (fun X hX => ?_)
  conv => whnf
  refine And.intro (fun c => ?_) (fun c => ?_)
  · exact absurd c (nI_pos (by omega))
  · conv => whnf
    refine And.intro (fun c2 => ?_) (fun c2 => ?_)
    · conv => whnf
      exact ⟨Or.inr rfl, rfl, rfl⟩
    · exact absurd (show nI j < h.1 4 6 by rw [e]; exact nI_lt hj hn) c2
theorem m_isSt0 {h : ia_H} {n : Nat} (e : h.1 52 10 = nI n) {x : Int32} (hb : bad x n) : V_ 118 [.ref 52, .int x] h (Z_ (.int 0) h) := by
  refine ia_V_in ia_k_X8_isStatement [some (.ref 52), some (.int x)] rfl rfl (Nat.le_of_ble_eq_true rfl) rfl ?_
  refine ia_walk (fun _ => false) 50 (fun X hX => ?_)
  conv => whnf
  refine And.intro (fun c => ?_) (fun c => ?_)
  · conv => whnf
    exact ⟨Or.inl rfl, rfl, rfl⟩
  · conv => whnf
    refine And.intro (fun c2 => ?_) (fun c2 => ?_)
    · rcases hb with q | q
      · exact absurd q c
      · exact absurd (show x < h.1 52 10 from c2) (by rw [e]; exact Int32.not_lt.mpr q)
    · conv => whnf
      exact ⟨Or.inl rfl, rfl, rfl⟩
theorem m_isSt1 {h : ia_H} {n : Nat} (e : h.1 52 10 = nI n) (hn : n < 2 ^ 31) {j : Nat} (hj : j < n) : V_ 118 [.ref 52, .int (nI j)] h (Z_ (.int 1) h) := by
  refine ia_V_in ia_k_X8_isStatement [some (.ref 52), some (.int (nI j))] rfl rfl (Nat.le_of_ble_eq_true rfl) rfl ?_
  refine ia_walk (fun _ => false) 50 (fun X hX => ?_)
  conv => whnf
  refine And.intro (fun c => ?_) (fun c => ?_)
  · exact absurd c (nI_pos (by omega))
  · conv => whnf
    refine And.intro (fun c2 => ?_) (fun c2 => ?_)
    · conv => whnf
      exact ⟨Or.inr rfl, rfl, rfl⟩
    · exact absurd (show nI j < h.1 52 10 by rw [e]; exact nI_lt hj hn) c2
theorem m_isGa0 {h : ia_H} {n : Nat} (e : h.1 52 4 = nI n) {x : Int32} (hb : bad x n) : V_ 138 [.ref 52, .int x] h (Z_ (.int 0) h) := by
  refine ia_V_in ia_k_X8_isGauge [some (.ref 52), some (.int x)] rfl rfl (Nat.le_of_ble_eq_true rfl) rfl ?_
  refine ia_walk (fun _ => false) 50 (fun X hX => ?_)
  conv => whnf
  refine And.intro (fun c => ?_) (fun c => ?_)
  · conv => whnf
    exact ⟨Or.inl rfl, rfl, rfl⟩
  · conv => whnf
    refine And.intro (fun c2 => ?_) (fun c2 => ?_)
    · rcases hb with q | q
      · exact absurd q c
      · exact absurd (show x < h.1 52 4 from c2) (by rw [e]; exact Int32.not_lt.mpr q)
    · conv => whnf
      exact ⟨Or.inl rfl, rfl, rfl⟩
theorem m_isGa1 {h : ia_H} {n : Nat} (e : h.1 52 4 = nI n) (hn : n < 2 ^ 31) {j : Nat} (hj : j < n) : V_ 138 [.ref 52, .int (nI j)] h (Z_ (.int 1) h) := by
  refine ia_V_in ia_k_X8_isGauge [some (.ref 52), some (.int (nI j))] rfl rfl (Nat.le_of_ble_eq_true rfl) rfl ?_
  refine ia_walk (fun _ => false) 50 (fun X hX => ?_)
  conv => whnf
  refine And.intro (fun c => ?_) (fun c => ?_)
  · exact absurd c (nI_pos (by omega))
  · conv => whnf
    refine And.intro (fun c2 => ?_) (fun c2 => ?_)
    · conv => whnf
      exact ⟨Or.inr rfl, rfl, rfl⟩
    · exact absurd (show nI j < h.1 52 4 by rw [e]; exact nI_lt hj hn) c2
theorem m_isIn (h : ia_H) (x lo hi : Int64) : V_ 97 [.long x, .long lo, .long hi] h (Z_ (.int (if lo ≤ x ∧ x ≤ hi then 1 else 0)) h) := by
  refine ia_V_in ia_k_X8_isIn [some (.long x), none, some (.long lo), none, some (.long hi), none] rfl rfl (Nat.le_of_ble_eq_true rfl) rfl ?_
  refine ia_walk (fun _ => false) 50 (fun X hX => ?_)
  conv => whnf
  refine And.intro (fun c => ?_) (fun c => ?_)
  · conv => whnf
    exact ⟨Or.inl rfl, by rw [if_neg (fun q => absurd ((lg_cmp_lt _ _).mp c) (Int64.not_lt.mpr q.1))], rfl⟩
  · conv => whnf
    refine And.intro (fun c2 => ?_) (fun c2 => ?_)
    · conv => whnf
      exact ⟨Or.inl rfl, by rw [if_neg (fun q => absurd ((lg_cmp_gt _ _).mp c2) (Int64.not_lt.mpr q.2))], rfl⟩
    · conv => whnf
      exact ⟨Or.inr rfl, by rw [if_pos ⟨Int64.not_lt.mp (fun q => c ((lg_cmp_lt _ _).mpr q)), Int64.not_lt.mp (fun q => c2 ((lg_cmp_gt _ _).mpr q))⟩], rfl⟩
/-- both answer the same, and change nothing -/
def Q_ (yc : Nat) (ac : List Value) (ym : Nat) (am : List Value) (h : ia_H) : Prop := ∃ v : Value, V_ yc ac h (Z_ v h) ∧ V_ ym am h (Z_ v h)
theorem q_amount {h : ia_H} {n : Nat} (hn : n ≤ 120) (e1 : h.1 4 7 = nI n) (e2 : h.1 52 10 = nI n) (ea : ∀ s, s < n → h.2 58 s = h.2 9 s) (x : Int32) : Q_ 71 [.ref 0, .int x] 136 [.ref 52, .int x] h := by
  rcases bad_or x (show n < 2 ^ 31 by omega) with hb | ⟨j, hj, rfl⟩
  · refine ⟨.long (-9223372036854775808), ?_, ?_⟩
    · refine ia_V_in ia_k_X7_amount [some (.ref 0), some (.int x)] rfl rfl (Nat.le_of_ble_eq_true rfl) rfl ?_
      refine ia_walk (fun _ => false) 50 (fun X hX => ?_)
      conv => whnf
      refine Exists.intro (_, _) (And.intro (ia_callE (v_isSt0 e1 hb)) ?_)
      conv => whnf
      refine And.intro (fun c => ?_) (fun c => ?_)
      · conv => whnf
        exact ⟨rfl, rfl⟩
      · exact absurd rfl c
    · refine ia_V_in ia_k_X8_amount [some (.ref 52), some (.int x)] rfl rfl (Nat.le_of_ble_eq_true rfl) rfl ?_
      refine ia_walk (fun _ => false) 50 (fun X hX => ?_)
      conv => whnf
      refine Exists.intro (_, _) (And.intro (ia_callE (m_isSt0 e2 hb)) ?_)
      conv => whnf
      refine And.intro (fun c => ?_) (fun c => ?_)
      · conv => whnf
        exact ⟨rfl, rfl⟩
      · exact absurd rfl c
  · refine ⟨.long (h.2 9 j), ?_, ?_⟩
    · refine ia_V_in ia_k_X7_amount [some (.ref 0), some (.int (nI j))] rfl rfl (Nat.le_of_ble_eq_true rfl) rfl ?_
      refine ia_walk (fun _ => false) 50 (fun X hX => ?_)
      conv => whnf
      refine Exists.intro (_, _) (And.intro (ia_callE (v_isSt1 e1 (by omega) hj)) ?_)
      conv => whnf
      refine And.intro (fun c => ?_) (fun c => ?_)
      · exact absurd c (by decide)
      · conv => whnf
        refine Exists.intro _ (And.intro (And.intro rfl (by omega)) ?_)
        conv => whnf
        exact ⟨rfl, rfl⟩
    · refine ia_V_in ia_k_X8_amount [some (.ref 52), some (.int (nI j))] rfl rfl (Nat.le_of_ble_eq_true rfl) rfl ?_
      refine ia_walk (fun _ => false) 50 (fun X hX => ?_)
      conv => whnf
      refine Exists.intro (_, _) (And.intro (ia_callE (m_isSt1 e2 (by omega) hj)) ?_)
      conv => whnf
      refine And.intro (fun c => ?_) (fun c => ?_)
      · exact absurd c (by decide)
      · conv => whnf
        refine Exists.intro _ (And.intro (And.intro rfl (by omega)) ?_)
        conv => whnf
        exact ⟨by rw [← ea j hj], rfl⟩
theorem q_offset {h : ia_H} {G : Nat} (hG : G ≤ 41) (e1 : h.1 4 6 = nI G) (e2 : h.1 52 4 = nI G) (ea : ∀ s, s < G → h.2 61 s = h.2 28 s) (x : Int32) : Q_ 75 [.ref 0, .int x] 141 [.ref 52, .int x] h := by
  rcases bad_or x (show G < 2 ^ 31 by omega) with hb | ⟨j, hj, rfl⟩
  · refine ⟨.long (-9223372036854775808), ?_, ?_⟩
    · refine ia_V_in ia_k_X7_offset [some (.ref 0), some (.int x)] rfl rfl (Nat.le_of_ble_eq_true rfl) rfl ?_
      refine ia_walk (fun _ => false) 50 (fun X hX => ?_)
      conv => whnf
      refine Exists.intro (_, _) (And.intro (ia_callE (v_isGa0 e1 hb)) ?_)
      conv => whnf
      refine And.intro (fun c => ?_) (fun c => ?_)
      · conv => whnf
        exact ⟨rfl, rfl⟩
      · exact absurd rfl c
    · refine ia_V_in ia_k_X8_offset [some (.ref 52), some (.int x)] rfl rfl (Nat.le_of_ble_eq_true rfl) rfl ?_
      refine ia_walk (fun _ => false) 50 (fun X hX => ?_)
      conv => whnf
      refine Exists.intro (_, _) (And.intro (ia_callE (m_isGa0 e2 hb)) ?_)
      conv => whnf
      refine And.intro (fun c => ?_) (fun c => ?_)
      · conv => whnf
        exact ⟨rfl, rfl⟩
      · exact absurd rfl c
  · refine ⟨.long (h.2 28 j), ?_, ?_⟩
    · refine ia_V_in ia_k_X7_offset [some (.ref 0), some (.int (nI j))] rfl rfl (Nat.le_of_ble_eq_true rfl) rfl ?_
      refine ia_walk (fun _ => false) 50 (fun X hX => ?_)
      conv => whnf
      refine Exists.intro (_, _) (And.intro (ia_callE (v_isGa1 e1 (by omega) hj)) ?_)
      conv => whnf
      refine And.intro (fun c => ?_) (fun c => ?_)
      · exact absurd c (by decide)
      · conv => whnf
        refine Exists.intro _ (And.intro (And.intro rfl (by omega)) ?_)
        conv => whnf
        exact ⟨rfl, rfl⟩
    · refine ia_V_in ia_k_X8_offset [some (.ref 52), some (.int (nI j))] rfl rfl (Nat.le_of_ble_eq_true rfl) rfl ?_
      refine ia_walk (fun _ => false) 50 (fun X hX => ?_)
      conv => whnf
      refine Exists.intro (_, _) (And.intro (ia_callE (m_isGa1 e2 (by omega) hj)) ?_)
      conv => whnf
      refine And.intro (fun c => ?_) (fun c => ?_)
      · exact absurd c (by decide)
      · conv => whnf
        refine Exists.intro _ (And.intro (And.intro rfl (by omega)) ?_)
        conv => whnf
        exact ⟨by rw [← ea j hj], rfl⟩
theorem q_difference {h : ia_H} {G : Nat} (hG : G ≤ 41) (e1 : h.1 4 6 = nI G) (e2 : h.1 52 4 = nI G) (eg : ∀ g, g < G → h.1 60 g = h.1 27 g ∧ h.2 61 g = h.2 28 g) (x y : Int32) : Q_ 74 [.ref 0, .int x, .int y] 140 [.ref 52, .int x, .int y] h := by
  rcases bad_or x (show G < 2 ^ 31 by omega) with hb | ⟨j, hj, rfl⟩
  · refine ⟨.long (-9223372036854775808), ?_, ?_⟩
    · refine ia_V_in ia_k_X7_difference [some (.ref 0), some (.int x), some (.int y)] rfl rfl (Nat.le_of_ble_eq_true rfl) rfl ?_
      refine ia_walk (fun _ => false) 50 (fun X hX => ?_)
      conv => whnf
      refine Exists.intro (_, _) (And.intro (ia_callE (v_isGa0 e1 hb)) ?_)
      conv => whnf
      refine And.intro (fun c => ?_) (fun c => ?_)
      · conv => whnf
        exact ⟨rfl, rfl⟩
      · exact absurd rfl c
    · refine ia_V_in ia_k_X8_difference [some (.ref 52), some (.int x), some (.int y)] rfl rfl (Nat.le_of_ble_eq_true rfl) rfl ?_
      refine ia_walk (fun _ => false) 50 (fun X hX => ?_)
      conv => whnf
      refine Exists.intro (_, _) (And.intro (ia_callE (m_isGa0 e2 hb)) ?_)
      conv => whnf
      refine And.intro (fun c => ?_) (fun c => ?_)
      · conv => whnf
        exact ⟨rfl, rfl⟩
      · exact absurd rfl c
  · rcases bad_or y (show G < 2 ^ 31 by omega) with hb | ⟨k, hk, rfl⟩
    · refine ⟨.long (-9223372036854775808), ?_, ?_⟩
      · refine ia_V_in ia_k_X7_difference [some (.ref 0), some (.int (nI j)), some (.int y)] rfl rfl (Nat.le_of_ble_eq_true rfl) rfl ?_
        refine ia_walk (fun _ => false) 50 (fun X hX => ?_)
        conv => whnf
        refine Exists.intro (_, _) (And.intro (ia_callE (v_isGa1 e1 (by omega) hj)) ?_)
        conv => whnf
        refine And.intro (fun c => ?_) (fun c => ?_)
        · exact absurd c (by decide)
        · conv => whnf
          refine Exists.intro (_, _) (And.intro (ia_callE (v_isGa0 e1 hb)) ?_)
          conv => whnf
          refine And.intro (fun c2 => ?_) (fun c2 => ?_)
          · conv => whnf
            exact ⟨rfl, rfl⟩
          · exact absurd rfl c2
      · refine ia_V_in ia_k_X8_difference [some (.ref 52), some (.int (nI j)), some (.int y)] rfl rfl (Nat.le_of_ble_eq_true rfl) rfl ?_
        refine ia_walk (fun _ => false) 50 (fun X hX => ?_)
        conv => whnf
        refine Exists.intro (_, _) (And.intro (ia_callE (m_isGa1 e2 (by omega) hj)) ?_)
        conv => whnf
        refine And.intro (fun c => ?_) (fun c => ?_)
        · exact absurd c (by decide)
        · conv => whnf
          refine Exists.intro (_, _) (And.intro (ia_callE (m_isGa0 e2 hb)) ?_)
          conv => whnf
          refine And.intro (fun c2 => ?_) (fun c2 => ?_)
          · conv => whnf
            exact ⟨rfl, rfl⟩
          · exact absurd rfl c2
    · refine ⟨.long (if h.1 27 j = h.1 27 k then h.2 28 j - h.2 28 k else -9223372036854775808), ?_, ?_⟩
      · refine ia_V_in ia_k_X7_difference [some (.ref 0), some (.int (nI j)), some (.int (nI k))] rfl rfl (Nat.le_of_ble_eq_true rfl) rfl ?_
        refine ia_walk (fun _ => false) 50 (fun X hX => ?_)
        conv => whnf
        refine Exists.intro (_, _) (And.intro (ia_callE (v_isGa1 e1 (by omega) hj)) ?_)
        conv => whnf
        refine And.intro (fun c => ?_) (fun c => ?_)
        · exact absurd c (by decide)
        · conv => whnf
          refine Exists.intro (_, _) (And.intro (ia_callE (v_isGa1 e1 (by omega) hk)) ?_)
          conv => whnf
          refine And.intro (fun c2 => ?_) (fun c2 => ?_)
          · exact absurd c2 (by decide)
          · conv => whnf
            refine Exists.intro _ (And.intro (And.intro rfl (by omega)) ?_)
            conv => whnf
            refine Exists.intro _ (And.intro (And.intro rfl (by omega)) ?_)
            conv => whnf
            refine And.intro (fun c3 => ?_) (fun c3 => ?_)
            · conv => whnf
              refine Exists.intro _ (And.intro (And.intro rfl (by omega)) ?_)
              conv => whnf
              refine Exists.intro _ (And.intro (And.intro rfl (by omega)) ?_)
              conv => whnf
              exact ⟨by rw [if_pos c3], rfl⟩
            · conv => whnf
              exact ⟨by rw [if_neg c3], rfl⟩
      · refine ia_V_in ia_k_X8_difference [some (.ref 52), some (.int (nI j)), some (.int (nI k))] rfl rfl (Nat.le_of_ble_eq_true rfl) rfl ?_
        refine ia_walk (fun _ => false) 50 (fun X hX => ?_)
        conv => whnf
        refine Exists.intro (_, _) (And.intro (ia_callE (m_isGa1 e2 (by omega) hj)) ?_)
        conv => whnf
        refine And.intro (fun c => ?_) (fun c => ?_)
        · exact absurd c (by decide)
        · conv => whnf
          refine Exists.intro (_, _) (And.intro (ia_callE (m_isGa1 e2 (by omega) hk)) ?_)
          conv => whnf
          refine And.intro (fun c2 => ?_) (fun c2 => ?_)
          · exact absurd c2 (by decide)
          · conv => whnf
            refine Exists.intro _ (And.intro (And.intro rfl (by omega)) ?_)
            conv => whnf
            refine Exists.intro _ (And.intro (And.intro rfl (by omega)) ?_)
            conv => whnf
            refine And.intro (fun c3 => ?_) (fun c3 => ?_)
            · conv => whnf
              refine Exists.intro _ (And.intro (And.intro rfl (by omega)) ?_)
              conv => whnf
              refine Exists.intro _ (And.intro (And.intro rfl (by omega)) ?_)
              conv => whnf
              exact ⟨by rw [← (eg j hj).1, ← (eg k hk).1, if_pos c3, (eg j hj).2, (eg k hk).2], rfl⟩
            · conv => whnf
              exact ⟨by rw [← (eg j hj).1, ← (eg k hk).1, if_neg c3], rfl⟩
