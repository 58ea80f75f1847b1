/-! names: letter, class and reference side by side -/
/-- class and reference have the same names: ln letters, lt the letters from 1 on -/
def nmOk (h : ia_H) (G : Nat) (ln : Nat → Nat) (lt : Nat → Nat → Nat) : Prop := h.1 6 0 = 0 ∧ ln 0 = 0 ∧ ∀ g, 1 ≤ g → g < G → 1 ≤ ln g ∧ ln g ≤ 6 ∧ h.1 6 g = nI (ln g) ∧ h.1 54 (7 * g) = nI (ln g) ∧ ∀ k, k < ln g → 1 ≤ lt g k ∧ lt g k ≤ 26 ∧ h.1 5 (6 * g + k) = nI (96 + lt g k) ∧ h.1 54 (7 * g + 1 + k) = nI (lt g k)
theorem pl6 : ∀ g, g < 41 → nI g * (6 : Int32) = nI (6 * g) ∧ (7 : Int32) * nI g = nI (7 * g) := by decide +kernel
theorem lt97 : ∀ c, c < 27 → nI (96 + c) - 97 + 1 = nI c := by decide +kernel
theorem nm_len {h : ia_H} {G : Nat} {ln : Nat → Nat} {lt : Nat → Nat → Nat} (hn : nmOk h G ln lt) {g : Nat} (hg : g < G) : h.1 6 g = nI (ln g) ∧ ln g ≤ 6 := by
  by_cases z : g = 0
  · rw [z, hn.2.1, hn.1]; exact ⟨rfl, by omega⟩
  · obtain ⟨-, a, b, -⟩ := hn.2.2 g (by omega) hg
    exact ⟨b, a⟩
theorem v_letter1 {h : ia_H} {G : Nat} {ln : Nat → Nat} {lt : Nat → Nat → Nat} (hG : G ≤ 41) (e1 : h.1 4 6 = nI G) (hn : nmOk h G ln lt) (g : Nat) (hg : g < G) (y : Int32) : V_ 73 [.ref 0, .int (nI g), .int y] h (fun r h' => h' = h ∧ ((y = -1 ∧ r = some (.int (nI (ln g)))) ∨ (∃ k, k < ln g ∧ y = nI k ∧ r = some (.int (nI (lt g k)))) ∨ (¬ y = -1 ∧ bad y (ln g) ∧ r = some (.int (-1))))) := by
  obtain ⟨n1, n2⟩ := nm_len hn hg
  refine ia_V_in ia_k_X7_letter [some (.ref 0), some (.int (nI g)), some (.int y)] rfl rfl (Nat.le_of_ble_eq_true rfl) rfl ?_
  refine ia_walk (fun _ => false) 60 (fun X hX => ?_)
  conv => whnf
  refine Exists.intro (_, _) (And.intro (ia_callE (v_isGa1 e1 (by omega) hg)) ?_)
  conv => whnf
  refine And.intro (fun c => ?_) (fun c => ?_)
  · exact absurd (show (1 : Int32) = 0 from c) (by decide)
  · conv => whnf
    refine And.intro (fun c2 => ?_) (fun c2 => ?_)
    · have c2 : y < -1 := c2
      conv => whnf
      refine ⟨rfl, Or.inr (Or.inr ⟨fun q => ?_, Or.inl ?_, rfl⟩)⟩
      · rw [q] at c2; exact absurd c2 (by decide)
      · exact Int32.lt_trans c2 (by decide)
    · have c2 : ¬ y < -1 := c2
      conv => whnf
      refine Exists.intro _ (And.intro (And.intro rfl (by omega)) ?_)
      rcases k_or c2 (show ln g < 2 ^ 31 by omega) with q | ⟨q0, q⟩ | ⟨k, hk, rfl⟩
      · subst q
        conv => whnf
        refine And.intro (fun c3 => ?_) (fun c3 => ?_)
        · conv => whnf
          refine And.intro (fun c4 => ?_) (fun c4 => ?_)
          · conv => whnf
            refine Exists.intro _ (And.intro (And.intro rfl (by omega)) ?_)
            conv => whnf
            exact ⟨rfl, Or.inl ⟨rfl, congrArg (fun v => some (Value.int v)) n1⟩⟩
          · exact absurd rfl c4
        · exact absurd (show (-1 : Int32) < h.1 6 g by rw [n1]; exact Int32.lt_of_lt_of_le (by decide) (Int32.not_lt.mp (nI_pos (by omega)))) c3
      · conv => whnf
        refine And.intro (fun c3 => ?_) (fun c3 => ?_)
        · exact absurd (show y < h.1 6 g from c3) (by rw [n1]; exact Int32.not_lt.mpr q)
        · conv => whnf
          exact ⟨rfl, Or.inr (Or.inr ⟨q0, Or.inr q, rfl⟩)⟩
      · conv => whnf
        refine And.intro (fun c3 => ?_) (fun c3 => ?_)
        · conv => whnf
          refine And.intro (fun c4 => ?_) (fun c4 => ?_)
          · exact absurd c4 (nI_nm1 (by omega))
          · have g1 : 1 ≤ g := by
              rcases Nat.eq_zero_or_pos g with z | z
              · rw [z, hn.2.1] at hk; exact absurd hk (Nat.not_lt_zero k)
              · exact z
            obtain ⟨-, -, -, -, hl⟩ := hn.2.2 g g1 hg
            obtain ⟨l1, l2, l3, -⟩ := hl k hk
            conv => whnf
            refine Exists.intro (6 * g + k) (And.intro (And.intro ((show nI g * 6 + nI k = nI (6 * g + k) by rw [(pl6 g (by omega)).1]; exact nI_add _ _)) (by omega)) ?_)
            conv => whnf
            refine ⟨rfl, Or.inr (Or.inl ⟨k, hk, rfl, ?_⟩)⟩
            refine congrArg (fun v => some (Value.int v)) ?_
            show h.1 5 (6 * g + k) - 97 + 1 = _
            rw [l3]
            exact lt97 _ (by omega)
        · exact absurd (show nI k < h.1 6 g by rw [n1]; exact nI_lt hk (by omega)) c3
theorem i1of {n : Nat} (h : n < 2 ^ 31) : (nI n - 1).toInt64.toInt = (n : Int) - 1 := by
  rw [Int32.toInt_toInt64]
  cases n with
  | zero => decide
  | succ n => rw [nI_pred, nI_toInt (by omega)]; omega
theorem l_mletter {h : ia_H} {G : Nat} {ln : Nat → Nat} {lt : Nat → Nat → Nat} (hG : G ≤ 41) (hn : nmOk h G ln lt) (g : Nat) (hg : g < G) (y s' : Int32) (es : s' = nI (ln g)) {Z : Option Value → ia_H → Prop} (hZ : ∀ r, ((y = -1 ∧ r = some (.int (nI (ln g)))) ∨ (∃ k, k < ln g ∧ y = nI k ∧ r = some (.int (nI (lt g k)))) ∨ (¬ y = -1 ∧ bad y (ln g) ∧ r = some (.int (-1)))) → Z r h) : R_ ia_k_X8_letter Z (27, [some (.ref 52), some (.int (nI g)), some (.int y), none], [.int s'], h) := by
  subst es
  obtain ⟨n1, n2⟩ := nm_len hn hg
  have hin := m_isIn h y.toInt64 0 (nI (ln g) - 1).toInt64
  refine ia_walk (fun _ => false) 60 (fun X hX => ?_)
  conv => whnf
  refine And.intro (fun c => ?_) (fun c => ?_)
  · conv => whnf
    exact hZ _ (Or.inl ⟨c, rfl⟩)
  · have c : ¬ y = -1 := c
    rcases bad_or y (show ln g < 2 ^ 31 by omega) with hb | ⟨k, hk, rfl⟩
    · rw [if_neg (fun q => by
        have q := (in64 y 0 _).mp q
        rw [i1of (by omega)] at q
        have q1 : (0 : Int) ≤ y.toInt := q.1
        obtain ⟨j, j1, rfl⟩ := (bad_in (x := y) (n := ln g) (by omega)).mpr ⟨q1, by have := q.2; omega⟩
        rcases hb with z | z
        · exact nI_pos (by omega) z
        · exact absurd (nI_lt j1 (by omega)) (Int32.not_lt.mpr z))] at hin
      conv => whnf
      refine Exists.intro (_, _) (And.intro (ia_callE (hin)) ?_)
      conv => whnf
      refine And.intro (fun c2 => ?_) (fun c2 => ?_)
      · conv => whnf
        exact hZ _ (Or.inr (Or.inr ⟨c, hb, rfl⟩))
      · exact absurd rfl c2
    · rw [if_pos ((in64 (nI k) 0 _).mpr ⟨by rw [nI_toInt (by omega)]; show (0 : Int) ≤ _; omega, by rw [nI_toInt (by omega), i1of (by omega)]; omega⟩)] at hin
      have g1 : 1 ≤ g := by
        rcases Nat.eq_zero_or_pos g with z | z
        · rw [z, hn.2.1] at hk; exact absurd hk (Nat.not_lt_zero k)
        · exact z
      obtain ⟨-, -, -, -, hl⟩ := hn.2.2 g g1 hg
      obtain ⟨l1, l2, -, l4⟩ := hl k hk
      conv => whnf
      refine Exists.intro (_, _) (And.intro (ia_callE (hin)) ?_)
      conv => whnf
      refine And.intro (fun c2 => ?_) (fun c2 => ?_)
      · exact absurd (show (1 : Int32) = 0 from c2) (by decide)
      · conv => whnf
        refine Exists.intro (7 * g + 1 + k) (And.intro (And.intro ((show 7 * nI g + 1 + nI k = nI (7 * g + 1 + k) by rw [(pl6 g (by omega)).2, nI_1]; exact nI_add _ _)) (by omega)) ?_)
        conv => whnf
        refine hZ _ (Or.inr (Or.inl ⟨k, hk, rfl, ?_⟩))
        exact congrArg (fun v => some (Value.int v)) l4
theorem m_letter1 {h : ia_H} {G : Nat} {ln : Nat → Nat} {lt : Nat → Nat → Nat} (hG : G ≤ 41) (e2 : h.1 52 4 = nI G) (hn : nmOk h G ln lt) (g : Nat) (hg : g < G) (y : Int32) : V_ 139 [.ref 52, .int (nI g), .int y] h (fun r h' => h' = h ∧ ((y = -1 ∧ r = some (.int (nI (ln g)))) ∨ (∃ k, k < ln g ∧ y = nI k ∧ r = some (.int (nI (lt g k)))) ∨ (¬ y = -1 ∧ bad y (ln g) ∧ r = some (.int (-1))))) := by
  have l := fun s' es => l_mletter hG hn g hg y s' es (Z := fun r h' => h' = h ∧ ((y = -1 ∧ r = some (.int (nI (ln g)))) ∨ (∃ k, k < ln g ∧ y = nI k ∧ r = some (.int (nI (lt g k)))) ∨ (¬ y = -1 ∧ bad y (ln g) ∧ r = some (.int (-1))))) (fun r hr => ⟨rfl, hr⟩)
  refine ia_V_in ia_k_X8_letter [some (.ref 52), some (.int (nI g)), some (.int y), none] rfl rfl (Nat.le_of_ble_eq_true rfl) rfl ?_
  refine ia_walk (fun pc => Nat.beq pc 27) 60 (fun X hX => ?_)
  conv => whnf
  refine Exists.intro (_, _) (And.intro (ia_callE (m_isGa1 e2 (by omega) hg)) ?_)
  conv => whnf
  refine And.intro (fun c => ?_) (fun c => ?_)
  · exact absurd (show (1 : Int32) = 0 from c) (by decide)
  · conv => whnf
    refine And.intro (fun c2 => ?_) (fun c2 => ?_)
    · have g0 : g = 0 := nI_inj (b := 0) (by omega) (by omega) c2
      have l0 : nI (ln g) = 0 := by rw [g0, hn.2.1]; rfl
      conv => whnf
      exact hX _ (l 0 l0.symm)
    · have g1 : 1 ≤ g := by
        rcases Nat.eq_zero_or_pos g with z | z
        · exact absurd (show nI g = 0 by rw [z]; rfl) c2
        · exact z
      obtain ⟨-, -, -, hl, -⟩ := hn.2.2 g g1 hg
      conv => whnf
      refine Exists.intro (7 * g) (And.intro (And.intro ((pl6 g (by omega)).2) (by omega)) ?_)
      conv => whnf
      exact hX _ (l _ hl)
theorem q_letter {h : ia_H} {G : Nat} {ln : Nat → Nat} {lt : Nat → Nat → Nat} (hG : G ≤ 41) (e1 : h.1 4 6 = nI G) (e2 : h.1 52 4 = nI G) (hn : nmOk h G ln lt) (x y : Int32) : P_ 73 [.ref 0, .int x, .int y] 139 [.ref 52, .int x, .int y] h := by
  rcases bad_or x (show G < 2 ^ 31 by omega) with hb | ⟨g, hg, rfl⟩
  · refine P_of (v := .int (-1)) ?_ ?_
    · refine ia_V_in ia_k_X7_letter [some (.ref 0), some (.int x), some (.int y)] rfl rfl (Nat.le_of_ble_eq_true rfl) rfl ?_
      refine ia_walk (fun _ => false) 60 (fun X hX => ?_)
      conv => whnf
      refine Exists.intro (_, _) (And.intro (ia_callE (v_isGa0 e1 hb)) ?_)
      conv => whnf
      refine And.intro (fun c => ?_) (fun c => ?_)
      · conv => whnf
        exact ⟨rfl, rfl⟩
      · exact absurd rfl c
    · refine ia_V_in ia_k_X8_letter [some (.ref 52), some (.int x), some (.int y), none] rfl rfl (Nat.le_of_ble_eq_true rfl) rfl ?_
      refine ia_walk (fun _ => false) 60 (fun X hX => ?_)
      conv => whnf
      refine Exists.intro (_, _) (And.intro (ia_callE (m_isGa0 e2 hb)) ?_)
      conv => whnf
      refine And.intro (fun c => ?_) (fun c => ?_)
      · conv => whnf
        exact ⟨rfl, rfl⟩
      · exact absurd rfl c
  · obtain ⟨r, h1, ev, rfl, z⟩ := v_letter1 hG e1 hn g hg y
    obtain ⟨r', h2, ev', rfl, z'⟩ := m_letter1 hG e2 hn g hg y
    refine ⟨r, _, ev, frS_rfl _, r', _, ev', ?_, frS_rfl _⟩
    have hl := (nm_len hn hg).2
    rcases z with ⟨a, b⟩ | ⟨k, k1, k2, b⟩ | ⟨a, a2, b⟩ <;> rcases z' with ⟨a', b'⟩ | ⟨k', k1', k2', b'⟩ | ⟨a', a2', b'⟩
    · rw [b, b']
    · exact absurd (k2'.symm.trans a) (nI_nm1 (by omega))
    · exact absurd a a'
    · exact absurd (k2.symm.trans a') (nI_nm1 (by omega))
    · have : k = k' := nI_inj (by omega) (by omega) (k2.symm.trans k2')
      rw [b, b', this]
    · rw [k2] at a2'
      rcases a2' with q | q
      · exact absurd q (nI_pos (by omega))
      · exact absurd (nI_lt k1 (by omega)) (Int32.not_lt.mpr q)
    · exact absurd a' a
    · rw [k2'] at a2
      rcases a2 with q | q
      · exact absurd q (nI_pos (by omega))
      · exact absurd (nI_lt k1' (by omega)) (Int32.not_lt.mpr q)
    · rw [b, b']
