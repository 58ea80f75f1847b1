/-! pin, class and reference side by side -/
def pnH (h : ia_H) (c d p a : Nat) (sort s : Int32) : ia_H := hsI (hsI h c (upd (h.1 c) a sort)) d (upd (h.1 d) p s)
theorem v_put0 (h : ia_H) (a b : Nat) (ha : a < 2) (hb : b < 4) (s sort : Int32) (h1 : ¬ h.1 49 a = -1) (h2 : ¬ h.1 49 a = sort) : V_ 16 [.ref 47, .int (nI a), .int (nI b), .int s, .int sort] h (Z_ (.int 0) h) := by
  refine ia_V_in ia_k_X2_put [some (.ref 47), some (.int (nI a)), some (.int (nI b)), some (.int s), some (.int sort)] rfl rfl (Nat.le_of_ble_eq_true rfl) rfl ?_
  refine ia_walk (fun _ => false) 60 (fun X hX => ?_)
  conv => whnf
  refine Exists.intro _ (And.intro (And.intro rfl (by omega)) ?_)
  conv => whnf
  refine And.intro (fun c => ?_) (fun c => ?_)
  · exact absurd c h1
  · conv => whnf
    refine Exists.intro _ (And.intro (And.intro rfl (by omega)) ?_)
    conv => whnf
    refine And.intro (fun c2 => ?_) (fun c2 => ?_)
    · exact absurd c2 h2
    · conv => whnf
      exact ⟨Or.inl rfl, rfl, rfl⟩
theorem v_put1 (h : ia_H) (a b : Nat) (ha : a < 2) (hb : b < 4) (s sort : Int32) (h1 : h.1 49 a = -1 ∨ h.1 49 a = sort) : V_ 16 [.ref 47, .int (nI a), .int (nI b), .int s, .int sort] h (fun r h' => r = some (.int 1) ∧ h' = pnH h 49 48 (4 * a + b) a sort s) := by
  refine ia_V_in ia_k_X2_put [some (.ref 47), some (.int (nI a)), some (.int (nI b)), some (.int s), some (.int sort)] rfl rfl (Nat.le_of_ble_eq_true rfl) rfl ?_
  refine ia_walk (fun _ => false) 60 (fun X hX => ?_)
  conv => whnf
  refine Exists.intro _ (And.intro (And.intro rfl (by omega)) ?_)
  conv => whnf
  refine And.intro (fun c => ?_) (fun c => ?_)
  · conv => whnf
    refine Exists.intro _ (And.intro (And.intro rfl (by omega)) ?_)
    conv => whnf
    refine Exists.intro (4 * a + b) (And.intro (And.intro ((pl42 a ha b hb).1) (by omega)) ?_)
    conv => whnf
    exact ⟨Or.inr rfl, rfl, rfl⟩
  · conv => whnf
    refine Exists.intro _ (And.intro (And.intro rfl (by omega)) ?_)
    conv => whnf
    refine And.intro (fun c2 => ?_) (fun c2 => ?_)
    · conv => whnf
      refine Exists.intro _ (And.intro (And.intro rfl (by omega)) ?_)
      conv => whnf
      refine Exists.intro (4 * a + b) (And.intro (And.intro ((pl42 a ha b hb).1) (by omega)) ?_)
      conv => whnf
      exact ⟨Or.inr rfl, rfl, rfl⟩
    · exact absurd h1 (fun q => q.elim c c2)
def srt (x : Int32) : Int32 := if x = 0 then 0 else 1
theorem v_pin0 (h : ia_H) (n : Nat) (hn : n ≤ 120) (en : h.1 4 7 = nI n) (x y z : Int32) (hb : bad x 2 ∨ bad y 4 ∨ bad z n) : V_ 84 [.ref 0, .int x, .int y, .int z] h (Z_ (.int (-1)) h) := by
  by_cases hxy : bad x 2 ∨ bad y 4
  · refine ia_V_in ia_k_X7_pin [some (.ref 0), some (.int x), some (.int y), some (.int z), none] rfl rfl (Nat.le_of_ble_eq_true rfl) rfl ?_
    refine ia_walk (fun _ => false) 60 (fun X hX => ?_)
    conv => whnf
    refine Exists.intro (_, _) (And.intro (ia_callE (v_isRoom0 h x y hxy)) ?_)
    conv => whnf
    refine And.intro (fun c => ?_) (fun c => ?_)
    · conv => whnf
      exact ⟨rfl, rfl⟩
    · exact absurd rfl c
  · have hz : bad z n := by
      rcases hb with q | q | q
      · exact absurd (Or.inl q) hxy
      · exact absurd (Or.inr q) hxy
      · exact q
    rcases bad_or x (show 2 < 2 ^ 31 by omega) with q | ⟨a, ha, rfl⟩
    · exact absurd (Or.inl q) hxy
    · rcases bad_or y (show 4 < 2 ^ 31 by omega) with q | ⟨b, hb2, rfl⟩
      · exact absurd (Or.inr q) hxy
      · refine ia_V_in ia_k_X7_pin [some (.ref 0), some (.int (nI a)), some (.int (nI b)), some (.int z), none] rfl rfl (Nat.le_of_ble_eq_true rfl) rfl ?_
        refine ia_walk (fun _ => false) 60 (fun X hX => ?_)
        conv => whnf
        refine Exists.intro (_, _) (And.intro (ia_callE (v_isRoom1 h a b ha hb2)) ?_)
        conv => whnf
        refine And.intro (fun c => ?_) (fun c => ?_)
        · exact absurd (show (1 : Int32) = 0 from c) (by decide)
        · conv => whnf
          refine Exists.intro (_, _) (And.intro (ia_callE (v_isSt0 en hz)) ?_)
          conv => whnf
          refine And.intro (fun c => ?_) (fun c => ?_)
          · conv => whnf
            exact ⟨rfl, rfl⟩
          · exact absurd rfl c
theorem m_pin0 (h : ia_H) (n : Nat) (hn : n ≤ 120) (en : h.1 52 10 = nI n) (x y z : Int32) (hb : bad x 2 ∨ bad y 4 ∨ bad z n) : V_ 159 [.ref 52, .int x, .int y, .int z] h (Z_ (.int (-1)) h) := by
  rcases bad_or x (show 2 < 2 ^ 31 by omega) with q | ⟨a, ha, rfl⟩
  · refine ia_V_in ia_k_X8_pin [some (.ref 52), some (.int x), some (.int y), some (.int z), none] rfl rfl (Nat.le_of_ble_eq_true rfl) rfl ?_
    refine ia_walk (fun _ => false) 60 (fun X hX => ?_)
    conv => whnf
    refine Exists.intro (_, _) (And.intro (ia_callE (m_isInB h x 1 (by omega) 1 (by decide) q)) ?_)
    conv => whnf
    refine And.intro (fun c => ?_) (fun c => ?_)
    · conv => whnf
      exact ⟨rfl, rfl⟩
    · exact absurd rfl c
  · rcases bad_or y (show 4 < 2 ^ 31 by omega) with q | ⟨b, hb2, rfl⟩
    · refine ia_V_in ia_k_X8_pin [some (.ref 52), some (.int (nI a)), some (.int y), some (.int z), none] rfl rfl (Nat.le_of_ble_eq_true rfl) rfl ?_
      refine ia_walk (fun _ => false) 60 (fun X hX => ?_)
      conv => whnf
      refine Exists.intro (_, _) (And.intro (ia_callE (m_isInN h (nI a) 1 (by omega) 1 (by decide) ⟨a, by omega, rfl⟩)) ?_)
      conv => whnf
      refine And.intro (fun c => ?_) (fun c => ?_)
      · exact absurd (show (1 : Int32) = 0 from c) (by decide)
      · conv => whnf
        refine Exists.intro (_, _) (And.intro (ia_callE (m_isInB h y 3 (by omega) 3 (by decide) q)) ?_)
        conv => whnf
        refine And.intro (fun c => ?_) (fun c => ?_)
        · conv => whnf
          exact ⟨rfl, rfl⟩
        · exact absurd rfl c
    · have hz : bad z n := by
        rcases hb with (q | q) | (q | q) | q
        · exact absurd q (nI_pos (by omega))
        · exact absurd (nI_lt ha (by omega)) (Int32.not_lt.mpr q)
        · exact absurd q (nI_pos (by omega))
        · exact absurd (nI_lt hb2 (by omega)) (Int32.not_lt.mpr q)
        · exact q
      refine ia_V_in ia_k_X8_pin [some (.ref 52), some (.int (nI a)), some (.int (nI b)), some (.int z), none] rfl rfl (Nat.le_of_ble_eq_true rfl) rfl ?_
      refine ia_walk (fun _ => false) 60 (fun X hX => ?_)
      conv => whnf
      refine Exists.intro (_, _) (And.intro (ia_callE (m_isInN h (nI a) 1 (by omega) 1 (by decide) ⟨a, by omega, rfl⟩)) ?_)
      conv => whnf
      refine And.intro (fun c => ?_) (fun c => ?_)
      · exact absurd (show (1 : Int32) = 0 from c) (by decide)
      · conv => whnf
        refine Exists.intro (_, _) (And.intro (ia_callE (m_isInN h (nI b) 3 (by omega) 3 (by decide) ⟨b, by omega, rfl⟩)) ?_)
        conv => whnf
        refine And.intro (fun c => ?_) (fun c => ?_)
        · exact absurd (show (1 : Int32) = 0 from c) (by decide)
        · conv => whnf
          refine Exists.intro (_, _) (And.intro (ia_callE (m_isSt0 en hz)) ?_)
          conv => whnf
          refine And.intro (fun c => ?_) (fun c => ?_)
          · conv => whnf
            exact ⟨rfl, rfl⟩
          · exact absurd rfl c
theorem v_pin1 (h : ia_H) (n : Nat) (hn : n ≤ 120) (en : h.1 4 7 = nI n) (a b j : Nat) (ha : a < 2) (hb : b < 4) (hj : j < n) : V_ 84 [.ref 0, .int (nI a), .int (nI b), .int (nI j)] h (fun r h' => (¬ (h.1 49 a = -1 ∨ h.1 49 a = srt (h.1 8 j)) ∧ r = some (.int (-2)) ∧ h' = h) ∨ ((h.1 49 a = -1 ∨ h.1 49 a = srt (h.1 8 j)) ∧ r = some (.int (srt (h.1 8 j))) ∧ h' = pnH h 49 48 (4 * a + b) a (srt (h.1 8 j)) (nI j))) := by
  by_cases hok : h.1 49 a = -1 ∨ h.1 49 a = srt (h.1 8 j)
  · by_cases hs : h.1 8 j = 0
    · have es : srt (h.1 8 j) = 0 := if_pos hs
      rw [es] at hok
      refine ia_V_in ia_k_X7_pin [some (.ref 0), some (.int (nI a)), some (.int (nI b)), some (.int (nI j)), none] rfl rfl (Nat.le_of_ble_eq_true rfl) rfl ?_
      refine ia_walk (fun _ => false) 60 (fun X hX => ?_)
      conv => whnf
      refine Exists.intro (_, _) (And.intro (ia_callE (v_isRoom1 h a b ha hb)) ?_)
      conv => whnf
      refine And.intro (fun c => ?_) (fun c => ?_)
      · exact absurd (show (1 : Int32) = 0 from c) (by decide)
      · conv => whnf
        refine Exists.intro (_, _) (And.intro (ia_callE (v_isSt1 en (by omega) hj)) ?_)
        conv => whnf
        refine And.intro (fun c => ?_) (fun c => ?_)
        · exact absurd (show (1 : Int32) = 0 from c) (by decide)
        · conv => whnf
          refine Exists.intro _ (And.intro (And.intro rfl (by omega)) ?_)
          conv => whnf
          refine And.intro (fun c2 => ?_) (fun c2 => ?_)
          · conv => whnf
            refine Exists.intro (_, _) (And.intro (ia_callE (v_put1 h a b ha hb (nI j) 0 hok)) ?_)
            conv => whnf
            refine And.intro (fun c3 => ?_) (fun c3 => ?_)
            · exact absurd (show (1 : Int32) = 0 from c3) (by decide)
            · conv => whnf
              rw [es]
              exact Or.inr ⟨hok, rfl, rfl⟩
          · exact absurd hs c2
    · have es : srt (h.1 8 j) = 1 := if_neg hs
      rw [es] at hok
      refine ia_V_in ia_k_X7_pin [some (.ref 0), some (.int (nI a)), some (.int (nI b)), some (.int (nI j)), none] rfl rfl (Nat.le_of_ble_eq_true rfl) rfl ?_
      refine ia_walk (fun _ => false) 60 (fun X hX => ?_)
      conv => whnf
      refine Exists.intro (_, _) (And.intro (ia_callE (v_isRoom1 h a b ha hb)) ?_)
      conv => whnf
      refine And.intro (fun c => ?_) (fun c => ?_)
      · exact absurd (show (1 : Int32) = 0 from c) (by decide)
      · conv => whnf
        refine Exists.intro (_, _) (And.intro (ia_callE (v_isSt1 en (by omega) hj)) ?_)
        conv => whnf
        refine And.intro (fun c => ?_) (fun c => ?_)
        · exact absurd (show (1 : Int32) = 0 from c) (by decide)
        · conv => whnf
          refine Exists.intro _ (And.intro (And.intro rfl (by omega)) ?_)
          conv => whnf
          refine And.intro (fun c2 => ?_) (fun c2 => ?_)
          · exact absurd c2 hs
          · conv => whnf
            refine Exists.intro (_, _) (And.intro (ia_callE (v_put1 h a b ha hb (nI j) 1 hok)) ?_)
            conv => whnf
            refine And.intro (fun c3 => ?_) (fun c3 => ?_)
            · exact absurd (show (1 : Int32) = 0 from c3) (by decide)
            · conv => whnf
              rw [es]
              exact Or.inr ⟨hok, rfl, rfl⟩
  · have hok1 : ¬ h.1 49 a = -1 := fun q => hok (Or.inl q)
    have hok2 : ¬ h.1 49 a = srt (h.1 8 j) := fun q => hok (Or.inr q)
    by_cases hs : h.1 8 j = 0
    · have es : srt (h.1 8 j) = 0 := if_pos hs
      rw [es] at hok2
      refine ia_V_in ia_k_X7_pin [some (.ref 0), some (.int (nI a)), some (.int (nI b)), some (.int (nI j)), none] rfl rfl (Nat.le_of_ble_eq_true rfl) rfl ?_
      refine ia_walk (fun _ => false) 60 (fun X hX => ?_)
      conv => whnf
      refine Exists.intro (_, _) (And.intro (ia_callE (v_isRoom1 h a b ha hb)) ?_)
      conv => whnf
      refine And.intro (fun c => ?_) (fun c => ?_)
      · exact absurd (show (1 : Int32) = 0 from c) (by decide)
      · conv => whnf
        refine Exists.intro (_, _) (And.intro (ia_callE (v_isSt1 en (by omega) hj)) ?_)
        conv => whnf
        refine And.intro (fun c => ?_) (fun c => ?_)
        · exact absurd (show (1 : Int32) = 0 from c) (by decide)
        · conv => whnf
          refine Exists.intro _ (And.intro (And.intro rfl (by omega)) ?_)
          conv => whnf
          refine And.intro (fun c2 => ?_) (fun c2 => ?_)
          · conv => whnf
            refine Exists.intro (_, _) (And.intro (ia_callE (v_put0 h a b ha hb (nI j) 0 hok1 hok2)) ?_)
            conv => whnf
            refine And.intro (fun c3 => ?_) (fun c3 => ?_)
            · conv => whnf
              exact Or.inl ⟨hok, rfl, rfl⟩
            · exact absurd rfl c3
          · exact absurd hs c2
    · have es : srt (h.1 8 j) = 1 := if_neg hs
      rw [es] at hok2
      refine ia_V_in ia_k_X7_pin [some (.ref 0), some (.int (nI a)), some (.int (nI b)), some (.int (nI j)), none] rfl rfl (Nat.le_of_ble_eq_true rfl) rfl ?_
      refine ia_walk (fun _ => false) 60 (fun X hX => ?_)
      conv => whnf
      refine Exists.intro (_, _) (And.intro (ia_callE (v_isRoom1 h a b ha hb)) ?_)
      conv => whnf
      refine And.intro (fun c => ?_) (fun c => ?_)
      · exact absurd (show (1 : Int32) = 0 from c) (by decide)
      · conv => whnf
        refine Exists.intro (_, _) (And.intro (ia_callE (v_isSt1 en (by omega) hj)) ?_)
        conv => whnf
        refine And.intro (fun c => ?_) (fun c => ?_)
        · exact absurd (show (1 : Int32) = 0 from c) (by decide)
        · conv => whnf
          refine Exists.intro _ (And.intro (And.intro rfl (by omega)) ?_)
          conv => whnf
          refine And.intro (fun c2 => ?_) (fun c2 => ?_)
          · exact absurd c2 hs
          · conv => whnf
            refine Exists.intro (_, _) (And.intro (ia_callE (v_put0 h a b ha hb (nI j) 1 hok1 hok2)) ?_)
            conv => whnf
            refine And.intro (fun c3 => ?_) (fun c3 => ?_)
            · conv => whnf
              exact Or.inl ⟨hok, rfl, rfl⟩
            · exact absurd rfl c3
theorem l_mpin (h : ia_H) (a b j : Nat) (ha : a < 2) (hb : b < 4) (sort s' : Int32) (es : s' = sort) {Z : Option Value → ia_H → Prop} (h0 : ¬ (h.1 74 a = -1 ∨ h.1 74 a = sort) → Z (some (.int (-2))) h) (h1 : (h.1 74 a = -1 ∨ h.1 74 a = sort) → Z (some (.int sort)) (pnH h 74 75 (4 * a + b) a sort (nI j))) : R_ ia_k_X8_pin Z (48, [some (.ref 52), some (.int (nI a)), some (.int (nI b)), some (.int (nI j)), some (.int s')], [], h) := by
  subst es
  refine ia_walk (fun _ => false) 60 (fun X hX => ?_)
  conv => whnf
  refine Exists.intro _ (And.intro (And.intro rfl (by omega)) ?_)
  conv => whnf
  refine And.intro (fun c => ?_) (fun c => ?_)
  · conv => whnf
    refine Exists.intro _ (And.intro (And.intro rfl (by omega)) ?_)
    conv => whnf
    refine Exists.intro (4 * a + b) (And.intro (And.intro ((pl42 a ha b hb).2) (by omega)) ?_)
    conv => whnf
    exact h1 (Or.inl c)
  · conv => whnf
    refine Exists.intro _ (And.intro (And.intro rfl (by omega)) ?_)
    conv => whnf
    refine And.intro (fun c2 => ?_) (fun c2 => ?_)
    · conv => whnf
      refine Exists.intro _ (And.intro (And.intro rfl (by omega)) ?_)
      conv => whnf
      refine Exists.intro (4 * a + b) (And.intro (And.intro ((pl42 a ha b hb).2) (by omega)) ?_)
      conv => whnf
      exact h1 (Or.inr c2)
    · conv => whnf
      exact h0 (fun q => q.elim c c2)
theorem m_pin1 (h : ia_H) (n : Nat) (hn : n ≤ 120) (en : h.1 52 10 = nI n) (a b j : Nat) (ha : a < 2) (hb : b < 4) (hj : j < n) : V_ 159 [.ref 52, .int (nI a), .int (nI b), .int (nI j)] h (fun r h' => (¬ (h.1 74 a = -1 ∨ h.1 74 a = srt (h.1 57 j)) ∧ r = some (.int (-2)) ∧ h' = h) ∨ ((h.1 74 a = -1 ∨ h.1 74 a = srt (h.1 57 j)) ∧ r = some (.int (srt (h.1 57 j))) ∧ h' = pnH h 74 75 (4 * a + b) a (srt (h.1 57 j)) (nI j))) := by
  refine ia_V_in ia_k_X8_pin [some (.ref 52), some (.int (nI a)), some (.int (nI b)), some (.int (nI j)), none] rfl rfl (Nat.le_of_ble_eq_true rfl) rfl ?_
  refine ia_walk (fun pc => Nat.beq pc 48) 60 (fun X hX => ?_)
  conv => whnf
  refine Exists.intro (_, _) (And.intro (ia_callE (m_isInN h (nI a) 1 (by omega) 1 (by decide) ⟨a, by omega, rfl⟩)) ?_)
  conv => whnf
  refine And.intro (fun c => ?_) (fun c => ?_)
  · exact absurd (show (1 : Int32) = 0 from c) (by decide)
  · conv => whnf
    refine Exists.intro (_, _) (And.intro (ia_callE (m_isInN h (nI b) 3 (by omega) 3 (by decide) ⟨b, by omega, rfl⟩)) ?_)
    conv => whnf
    refine And.intro (fun c => ?_) (fun c => ?_)
    · exact absurd (show (1 : Int32) = 0 from c) (by decide)
    · conv => whnf
      refine Exists.intro (_, _) (And.intro (ia_callE (m_isSt1 en (by omega) hj)) ?_)
      conv => whnf
      refine And.intro (fun c => ?_) (fun c => ?_)
      · exact absurd (show (1 : Int32) = 0 from c) (by decide)
      · conv => whnf
        refine Exists.intro _ (And.intro (And.intro rfl (by omega)) ?_)
        conv => whnf
        refine And.intro (fun c2 => ?_) (fun c2 => ?_)
        · have es : srt (h.1 57 j) = 0 := if_pos c2
          conv => whnf
          exact hX _ (l_mpin h a b j ha hb (srt (h.1 57 j)) 0 es.symm (fun q => Or.inl ⟨q, rfl, rfl⟩) (fun q => Or.inr ⟨q, rfl, rfl⟩))
        · have es : srt (h.1 57 j) = 1 := if_neg c2
          conv => whnf
          exact hX _ (l_mpin h a b j ha hb (srt (h.1 57 j)) 1 es.symm (fun q => Or.inl ⟨q, rfl, rfl⟩) (fun q => Or.inr ⟨q, rfl, rfl⟩))
/-- a heap like another but for pins -/
def frP (h H : ia_H) : Prop := (∀ y, y ≠ 48 → y ≠ 49 → y ≠ 74 → y ≠ 75 → H.1 y = h.1 y) ∧ H.2 = h.2
theorem q_pin {h : ia_H} {n : Nat} (hn : n ≤ 120) (e1 : h.1 4 7 = nI n) (e2 : h.1 52 10 = nI n) (eb : ∀ s, s < n → h.1 57 s = h.1 8 s) (hp : pnOk h) (x y z : Int32) : V_ 84 [.ref 0, .int x, .int y, .int z] h (fun r h1 => V_ 159 [.ref 52, .int x, .int y, .int z] h1 (fun r2 h2 => r2 = r ∧ frP h h2 ∧ pnOk h2)) := by
  by_cases hb : bad x 2 ∨ bad y 4 ∨ bad z n
  · obtain ⟨r, h1, ev, q1, q2⟩ := v_pin0 h n hn e1 x y z hb
    obtain ⟨r', h1', ev', q1', q2'⟩ := m_pin0 h n hn e2 x y z hb
    subst q1 q2 q1' q2'
    exact ⟨_, _, ev, _, _, ev', rfl, ⟨fun _ _ _ _ _ => rfl, rfl⟩, hp⟩
  · rcases bad_or x (show 2 < 2 ^ 31 by omega) with q | ⟨a, ha, rfl⟩
    · exact absurd (Or.inl q) hb
    · rcases bad_or y (show 4 < 2 ^ 31 by omega) with q | ⟨b, hb2, rfl⟩
      · exact absurd (Or.inr (Or.inl q)) hb
      · rcases bad_or z (show n < 2 ^ 31 by omega) with q | ⟨j, hj, rfl⟩
        · exact absurd (Or.inr (Or.inr q)) hb
        · obtain ⟨r, h1, ev, q⟩ := v_pin1 h n hn e1 a b j ha hb2 hj
          rcases q with ⟨q1, q2, q3⟩ | ⟨q1, q2, q3⟩
          · subst q2 q3
            obtain ⟨r', h1', ev', q'⟩ := m_pin1 h1 n hn e2 a b j ha hb2 hj
            rw [eb j hj, ← hp.2 a ha] at q'
            rcases q' with ⟨p1, p2, p3⟩ | ⟨p1, p2, p3⟩
            · subst p2 p3
              exact ⟨_, _, ev, _, _, ev', rfl, ⟨fun _ _ _ _ _ => rfl, rfl⟩, hp⟩
            · exact absurd p1 q1
          · subst q2 q3
            obtain ⟨r', h1', ev', q'⟩ := m_pin1 (pnH h 49 48 (4 * a + b) a (srt (h.1 8 j)) (nI j)) n hn e2 a b j ha hb2 hj
            rw [show (pnH h 49 48 (4 * a + b) a (srt (h.1 8 j)) (nI j)).1 57 j = h.1 8 j from eb j hj, show (pnH h 49 48 (4 * a + b) a (srt (h.1 8 j)) (nI j)).1 74 a = h.1 49 a from (hp.2 a ha).symm] at q'
            rcases q' with ⟨p1, p2, p3⟩ | ⟨p1, p2, p3⟩
            · exact absurd q1 p1
            · subst p2 p3
              refine ⟨_, _, ev, _, _, ev', rfl, ⟨fun y h1 h2 h3 h4 => ?_, rfl⟩, fun i hi => ?_, fun i hi => ?_⟩
              · show (if y = 75 then _ else if y = 74 then _ else if y = 48 then _ else if y = 49 then _ else h.1 y) = h.1 y
                rw [if_neg h4, if_neg h3, if_neg h1, if_neg h2]
              · show upd (h.1 48) (4 * a + b) (nI j) i = upd (h.1 75) (4 * a + b) (nI j) i
                simp only [upd]
                rw [hp.1 i hi]
              · show upd (h.1 49) a (srt (h.1 8 j)) i = upd (h.1 74) a (srt (h.1 8 j)) i
                simp only [upd]
                rw [hp.2 i hi]
