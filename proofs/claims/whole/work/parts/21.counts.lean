/-! The reference's counts -/
theorem l_msizeOf (h : ia_H) (a G : Nat) (ha : a < 41) (hG : G ≤ 41) (eG : h.1 52 4 = nI G) {Z : Option Value → ia_H → Prop} (hZ : Z (some (.int (nI (ct (fun j => decide (h.1 60 j = h.1 60 a)) G)))) h) : ∀ k g : Nat, g + k = G → R_ ia_k_X8_sizeOf Z (4, [some (.ref 52), some (.int (nI a)), some (.int (nI (ct (fun j => decide (h.1 60 j = h.1 60 a)) g))), some (.int (nI g))], [], h) := by
  intro k
  induction k with
  | zero =>
    intro g hg
    have eg : g = G := by omega
    subst eg
    refine ia_walk (fun pc => Nat.beq pc 4) 50 (fun X hX => ?_)
    conv => whnf
    refine And.intro (fun c => ?_) (fun c => ?_)
    · exact absurd c (by show ¬ nI g < h.1 52 4; rw [eG]; exact nI_nlt (Nat.le_refl g) (by omega))
    · conv => whnf
      exact hZ
  | succ k ih =>
    intro g hg
    refine ia_walk (fun pc => Nat.beq pc 4) 50 (fun X hX => ?_)
    conv => whnf
    refine And.intro (fun c => ?_) (fun c => ?_)
    · conv => whnf
      refine Exists.intro _ (And.intro (And.intro rfl (by omega)) ?_)
      conv => whnf
      refine Exists.intro _ (And.intro (And.intro rfl (ha)) ?_)
      conv => whnf
      refine And.intro (fun c2 => ?_) (fun c2 => ?_)
      · conv => whnf
        rw [nI_1, nI_1, ← ct_t (p := fun j => decide (h.1 60 j = h.1 60 a)) (decide_eq_true c2)]
        exact hX _ (ih (g + 1) (by omega))
      · conv => whnf
        rw [nI_1, Int32.add_zero, ← ct_f (p := fun j => decide (h.1 60 j = h.1 60 a)) (decide_eq_false c2)]
        exact hX _ (ih (g + 1) (by omega))
    · exact absurd (by show nI g < h.1 52 4; rw [eG]; exact nI_lt (by omega) (by omega)) c
theorem m_sizeOf (h : ia_H) (a G : Nat) (ha : a < 41) (hG : G ≤ 41) (eG : h.1 52 4 = nI G) : V_ 133 [.ref 52, .int (nI a)] h (Z_ (.int (nI (ct (fun j => decide (h.1 60 j = h.1 60 a)) G))) h) := by
  refine ia_V_in ia_k_X8_sizeOf [some (.ref 52), some (.int (nI a)), none, none] rfl rfl (Nat.le_of_ble_eq_true rfl) rfl ?_
  refine ia_walk (fun pc => Nat.beq pc 4) 50 (fun X hX => ?_)
  conv => whnf
  exact hX _ (l_msizeOf h a G ha hG eG ⟨rfl, rfl⟩ G 0 (by omega))
theorem l_mgroups (h : ia_H) (G : Nat) (hG : G ≤ 41) (eG : h.1 52 4 = nI G) {Z : Option Value → ia_H → Prop} (hZ : Z (some (.int (nI (ct (fun j => decide (h.1 60 j = nI j)) G)))) h) : ∀ k g : Nat, g + k = G → R_ ia_k_X8_groups Z (4, [some (.ref 52), some (.int (nI (ct (fun j => decide (h.1 60 j = nI j)) g))), some (.int (nI g))], [], h) := by
  intro k
  induction k with
  | zero =>
    intro g hg
    have eg : g = G := by omega
    subst eg
    refine ia_walk (fun pc => Nat.beq pc 4) 50 (fun X hX => ?_)
    conv => whnf
    refine And.intro (fun c => ?_) (fun c => ?_)
    · exact absurd c (by show ¬ nI g < h.1 52 4; rw [eG]; exact nI_nlt (Nat.le_refl g) (by omega))
    · conv => whnf
      exact hZ
  | succ k ih =>
    intro g hg
    refine ia_walk (fun pc => Nat.beq pc 4) 50 (fun X hX => ?_)
    conv => whnf
    refine And.intro (fun c => ?_) (fun c => ?_)
    · conv => whnf
      refine Exists.intro _ (And.intro (And.intro rfl (by omega)) ?_)
      conv => whnf
      refine And.intro (fun c2 => ?_) (fun c2 => ?_)
      · conv => whnf
        rw [nI_1, nI_1, ← ct_t (p := fun j => decide (h.1 60 j = nI j)) (decide_eq_true c2)]
        exact hX _ (ih (g + 1) (by omega))
      · conv => whnf
        rw [nI_1, Int32.add_zero, ← ct_f (p := fun j => decide (h.1 60 j = nI j)) (decide_eq_false c2)]
        exact hX _ (ih (g + 1) (by omega))
    · exact absurd (by show nI g < h.1 52 4; rw [eG]; exact nI_lt (by omega) (by omega)) c
theorem m_groups (h : ia_H) (G : Nat) (hG : G ≤ 41) (eG : h.1 52 4 = nI G) : V_ 161 [.ref 52] h (Z_ (.int (nI (ct (fun j => decide (h.1 60 j = nI j)) G))) h) := by
  refine ia_V_in ia_k_X8_groups [some (.ref 52), none, none] rfl rfl (Nat.le_of_ble_eq_true rfl) rfl ?_
  refine ia_walk (fun pc => Nat.beq pc 4) 50 (fun X hX => ?_)
  conv => whnf
  exact hX _ (l_mgroups h G hG eG ⟨rfl, rfl⟩ G 0 (by omega))
theorem l_manyOf (h : ia_H) (x : Int32) (n : Nat) (hn : n ≤ 120) (eN : h.1 52 10 = nI n) {Z : Option Value → ia_H → Prop} (hZ : Z (some (.int (nI (ct (fun j => decide (h.1 62 j = x)) n)))) h) : ∀ k g : Nat, g + k = n → R_ ia_k_X8_manyOf Z (4, [some (.ref 52), some (.int x), some (.int (nI (ct (fun j => decide (h.1 62 j = x)) g))), some (.int (nI g))], [], h) := by
  intro k
  induction k with
  | zero =>
    intro g hg
    have eg : g = n := by omega
    subst eg
    refine ia_walk (fun pc => Nat.beq pc 4) 50 (fun X hX => ?_)
    conv => whnf
    refine And.intro (fun c => ?_) (fun c => ?_)
    · exact absurd c (by show ¬ nI g < h.1 52 10; rw [eN]; exact nI_nlt (Nat.le_refl g) (by omega))
    · conv => whnf
      exact hZ
  | succ k ih =>
    intro g hg
    refine ia_walk (fun pc => Nat.beq pc 4) 50 (fun X hX => ?_)
    conv => whnf
    refine And.intro (fun c => ?_) (fun c => ?_)
    · conv => whnf
      refine Exists.intro _ (And.intro (And.intro rfl (by omega)) ?_)
      conv => whnf
      refine And.intro (fun c2 => ?_) (fun c2 => ?_)
      · conv => whnf
        rw [nI_1, nI_1, ← ct_t (p := fun j => decide (h.1 62 j = x)) (decide_eq_true c2)]
        exact hX _ (ih (g + 1) (by omega))
      · conv => whnf
        rw [nI_1, Int32.add_zero, ← ct_f (p := fun j => decide (h.1 62 j = x)) (decide_eq_false c2)]
        exact hX _ (ih (g + 1) (by omega))
    · exact absurd (by show nI g < h.1 52 10; rw [eN]; exact nI_lt (by omega) (by omega)) c
theorem m_manyOf (h : ia_H) (x : Int32) (n : Nat) (hn : n ≤ 120) (eN : h.1 52 10 = nI n) : V_ 120 [.ref 52, .int x] h (Z_ (.int (nI (ct (fun j => decide (h.1 62 j = x)) n))) h) := by
  refine ia_V_in ia_k_X8_manyOf [some (.ref 52), some (.int x), none, none] rfl rfl (Nat.le_of_ble_eq_true rfl) rfl ?_
  refine ia_walk (fun pc => Nat.beq pc 4) 50 (fun X hX => ?_)
  conv => whnf
  exact hX _ (l_manyOf h x n hn eN ⟨rfl, rfl⟩ n 0 (by omega))
theorem m_standing (h : ia_H) (n : Nat) (hn : n ≤ 120) (eN : h.1 52 10 = nI n) : V_ 121 [.ref 52] h (Z_ (.int (nI (ct (fun j => decide (h.1 62 j = 0)) n) + nI (ct (fun j => decide (h.1 62 j = 1)) n))) h) := by
  refine ia_V_in ia_k_X8_standing [some (.ref 52)] rfl rfl (Nat.le_of_ble_eq_true rfl) rfl ?_
  refine ia_walk (fun _ => false) 50 (fun X hX => ?_)
  conv => whnf
  obtain ⟨x1, f1, ev'⟩ := ia_callN (f := Value.int) (m_manyOf h 0 n hn eN)
  refine Exists.intro (_, _) (And.intro ev' ?_)
  clear ev'
  conv => whnf
  obtain ⟨x2, f2, ev'⟩ := ia_callN (f := Value.int) (m_manyOf h 1 n hn eN)
  refine Exists.intro (_, _) (And.intro ev' ?_)
  clear ev'
  conv => whnf
  exact ⟨by rw [f1, f2], rfl⟩
theorem l_mknownTwos (h : ia_H) (G : Nat) (hG : G ≤ 41) (eG : h.1 52 4 = nI G) {Z : Option Value → ia_H → Prop} (hZ : Z (some (.int (nI (ct2 (fun g j => decide (h.1 60 g = h.1 60 j)) G)))) h) : ∀ (k g : Nat) (w : Option Value), g + k = G → R_ ia_k_X8_knownTwos Z (4, [some (.ref 52), some (.int (nI (ct2 (fun g j => decide (h.1 60 g = h.1 60 j)) g))), some (.int (nI g)), w], [], h) := by
  intro k
  induction k with
  | zero =>
    intro g w hg
    have eg : g = G := by omega
    subst eg
    refine ia_walk (fun pc => Nat.beq pc 4) 50 (fun X hX => ?_)
    conv => whnf
    refine And.intro (fun c => ?_) (fun c => ?_)
    · exact absurd c (by show ¬ nI g < h.1 52 4; rw [eG]; exact nI_nlt (Nat.le_refl g) (by omega))
    · conv => whnf
      exact hZ
  | succ k ih =>
    intro g w hg
    have inner : ∀ (k2 j : Nat), j + k2 = g → R_ ia_k_X8_knownTwos Z (14, [some (.ref 52), some (.int (nI (ct2 (fun g j => decide (h.1 60 g = h.1 60 j)) g + ct (fun j => decide (h.1 60 g = h.1 60 j)) j))), some (.int (nI g)), some (.int (nI j))], [], h) := by
      intro k2
      induction k2 with
      | zero =>
        intro j hj
        have ej : j = g := by omega
        subst ej
        refine ia_walk (fun pc => Nat.beq pc 4) 50 (fun X hX => ?_)
        conv => whnf
        refine And.intro (fun c => ?_) (fun c => ?_)
        · exact absurd ((nI_ltI (by omega) (by omega)).mp c) (by omega)
        · conv => whnf
          rw [nI_1]
          exact hX _ (ih (j + 1) _ (by omega))
      | succ k2 ih2 =>
        intro j hj
        refine ia_walk (fun pc => Nat.beq pc 14) 50 (fun X hX => ?_)
        conv => whnf
        refine And.intro (fun c => ?_) (fun c => ?_)
        · conv => whnf
          refine Exists.intro _ (And.intro (And.intro rfl (by omega)) ?_)
          conv => whnf
          refine Exists.intro _ (And.intro (And.intro rfl (by omega)) ?_)
          conv => whnf
          refine And.intro (fun c2 => ?_) (fun c2 => ?_)
          · conv => whnf
            have e := ct_t (p := fun j => decide (h.1 60 g = h.1 60 j)) (n := j) (decide_eq_true c2)
            rw [nI_1, nI_1, Nat.add_assoc, ← e]
            exact hX _ (ih2 (j + 1) (by omega))
          · conv => whnf
            have e := ct_f (p := fun j => decide (h.1 60 g = h.1 60 j)) (n := j) (decide_eq_false c2)
            rw [nI_1, Int32.add_zero, ← e]
            exact hX _ (ih2 (j + 1) (by omega))
        · exact absurd ((nI_ltI (by omega) (by omega)).mpr (by omega)) c
    refine ia_walk (fun pc => Nat.beq pc 14) 50 (fun X hX => ?_)
    conv => whnf
    refine And.intro (fun c => ?_) (fun c => ?_)
    · conv => whnf
      exact hX _ (inner g 0 (by omega))
    · exact absurd (by show nI g < h.1 52 4; rw [eG]; exact nI_lt (by omega) (by omega)) c
theorem m_knownTwos (h : ia_H) (G : Nat) (hG : G ≤ 41) (eG : h.1 52 4 = nI G) : V_ 162 [.ref 52] h (Z_ (.int (nI (ct2 (fun g j => decide (h.1 60 g = h.1 60 j)) G))) h) := by
  refine ia_V_in ia_k_X8_knownTwos [some (.ref 52), none, none, none] rfl rfl (Nat.le_of_ble_eq_true rfl) rfl ?_
  refine ia_walk (fun pc => Nat.beq pc 4) 50 (fun X hX => ?_)
  conv => whnf
  exact hX _ (l_mknownTwos h G hG eG ⟨rfl, rfl⟩ G 0 _ (by omega))
/-- two gauges of a group that differ by m, as the reference has it -/
def mr_tw (L : Nat → Int32) (O : Nat → Int64) (m : Int64) (g j : Nat) : Bool := decide (L g = L j) && (decide (O g - O j = m) || decide (O g - O j = -m))
theorem l_mtwos (h : ia_H) (G : Nat) (m : Int64) (hG : G ≤ 41) (eG : h.1 52 4 = nI G) {Z : Option Value → ia_H → Prop} (hZ : Z (some (.int (nI (ct2 (mr_tw (h.1 60) (h.2 61) m) G)))) h) : ∀ (k g : Nat) (w v : Option Value), g + k = G → R_ ia_k_X8_twos Z (13, [some (.ref 52), some (.long m), none, some (.int (nI (ct2 (mr_tw (h.1 60) (h.2 61) m) g))), some (.int (nI g)), w, v, none], [], h) := by
  intro k
  induction k with
  | zero =>
    intro g w v hg
    have eg : g = G := by omega
    subst eg
    refine ia_walk (fun pc => Nat.beq pc 13) 50 (fun X hX => ?_)
    conv => whnf
    refine And.intro (fun c => ?_) (fun c => ?_)
    · exact absurd c (by show ¬ nI g < h.1 52 4; rw [eG]; exact nI_nlt (Nat.le_refl g) (by omega))
    · conv => whnf
      exact hZ
  | succ k ih =>
    intro g w v hg
    have inner : ∀ (k2 j : Nat) (v : Option Value), j + k2 = g → R_ ia_k_X8_twos Z (25, [some (.ref 52), some (.long m), none, some (.int (nI (ct2 (mr_tw (h.1 60) (h.2 61) m) g + ct (mr_tw (h.1 60) (h.2 61) m g) j))), some (.int (nI g)), some (.int (nI j)), v, none], [], h) := by
      intro k2
      induction k2 with
      | zero =>
        intro j v hj
        have ej : j = g := by omega
        subst ej
        refine ia_walk (fun pc => Nat.beq pc 13) 50 (fun X hX => ?_)
        conv => whnf
        refine And.intro (fun c => ?_) (fun c => ?_)
        · exact absurd ((nI_ltI (by omega) (by omega)).mp c) (by omega)
        · conv => whnf
          rw [nI_1]
          exact hX _ (ih (j + 1) _ _ (by omega))
      | succ k2 ih2 =>
        intro j v hj
        refine ia_walk (fun pc => Nat.beq pc 25) 60 (fun X hX => ?_)
        conv => whnf
        refine And.intro (fun c => ?_) (fun c => ?_)
        · conv => whnf
          refine Exists.intro _ (And.intro (And.intro rfl (by omega)) ?_)
          conv => whnf
          refine Exists.intro _ (And.intro (And.intro rfl (by omega)) ?_)
          conv => whnf
          refine And.intro (fun c2 => ?_) (fun c2 => ?_)
          · conv => whnf
            refine Exists.intro _ (And.intro (And.intro rfl (by omega)) ?_)
            conv => whnf
            refine Exists.intro _ (And.intro (And.intro rfl (by omega)) ?_)
            conv => whnf
            refine And.intro (fun c3 => ?_) (fun c3 => ?_)
            · conv => whnf
              have e := ct_t (p := mr_tw (h.1 60) (h.2 61) m g) (n := j) (by simp only [mr_tw, decide_eq_true c2, decide_eq_true ((lg_cmp_eq _ _).mp c3), Bool.true_or, Bool.and_true])
              rw [nI_1, nI_1, Nat.add_assoc, ← e]
              exact hX _ (ih2 (j + 1) _ (by omega))
            · conv => whnf
              refine And.intro (fun c4 => ?_) (fun c4 => ?_)
              · conv => whnf
                have e := ct_t (p := mr_tw (h.1 60) (h.2 61) m g) (n := j) (by simp only [mr_tw, decide_eq_true c2, decide_eq_true ((lg_cmp_eq _ _).mp c4), Bool.or_true, Bool.and_true])
                rw [nI_1, nI_1, Nat.add_assoc, ← e]
                exact hX _ (ih2 (j + 1) _ (by omega))
              · conv => whnf
                have e := ct_f (p := mr_tw (h.1 60) (h.2 61) m g) (n := j) (by simp only [mr_tw, decide_eq_false (fun q => c3 ((lg_cmp_eq _ _).mpr q)), decide_eq_false (fun q => c4 ((lg_cmp_eq _ _).mpr q)), Bool.or_false, Bool.and_false])
                rw [nI_1, Int32.add_zero, ← e]
                exact hX _ (ih2 (j + 1) _ (by omega))
          · conv => whnf
            have e := ct_f (p := mr_tw (h.1 60) (h.2 61) m g) (n := j) (by simp only [mr_tw, decide_eq_false c2, Bool.false_and])
            rw [nI_1, ← e]
            exact hX _ (ih2 (j + 1) _ (by omega))
        · exact absurd ((nI_ltI (by omega) (by omega)).mpr (by omega)) c
    refine ia_walk (fun pc => Nat.beq pc 25) 50 (fun X hX => ?_)
    conv => whnf
    refine And.intro (fun c => ?_) (fun c => ?_)
    · conv => whnf
      exact hX _ (inner g 0 _ (by omega))
    · exact absurd (by show nI g < h.1 52 4; rw [eG]; exact nI_lt (by omega) (by omega)) c
theorem m_twos (h : ia_H) (G : Nat) (m : Int64) (hG : G ≤ 41) (eG : h.1 52 4 = nI G) : V_ 148 [.ref 52, .long m] h (Z_ (.int (if m < 0 then -1 else nI (ct2 (mr_tw (h.1 60) (h.2 61) m) G))) h) := by
  refine ia_V_in ia_k_X8_twos [some (.ref 52), some (.long m), none, none, none, none, none, none] rfl rfl (Nat.le_of_ble_eq_true rfl) rfl ?_
  refine ia_walk (fun pc => Nat.beq pc 13) 50 (fun X hX => ?_)
  conv => whnf
  refine And.intro (fun c => ?_) (fun c => ?_)
  · conv => whnf
    exact ⟨by rw [if_pos ((lg_cmp_lt _ _).mp c)], rfl⟩
  · conv => whnf
    exact hX _ (l_mtwos h G m hG eG ⟨by rw [if_neg (fun q => c ((lg_cmp_lt _ _).mpr q))], rfl⟩ G 0 _ _ (by omega))
theorem c_twos (h : ia_H) (m : Int64) : V_ 80 [.ref 0, .long m] h (Z_ (.int (if m < 0 then -1 else nI (ct2 (gr_tw (h.1 27) (h.2 28) m) 41))) h) := by
  refine ia_V_in ia_k_X7_twos [some (.ref 0), some (.long m), none] rfl rfl (Nat.le_of_ble_eq_true rfl) rfl ?_
  refine ia_walk (fun _ => false) 50 (fun X hX => ?_)
  conv => whnf
  refine And.intro (fun c => ?_) (fun c => ?_)
  · conv => whnf
    exact ⟨by rw [if_pos ((lg_cmp_lt _ _).mp c)], rfl⟩
  · conv => whnf
    obtain ⟨x1, f1, ev'⟩ := ia_callN (f := Value.int) (v_countTwos h m)
    refine Exists.intro (_, _) (And.intro ev' ?_)
    clear ev'
    conv => whnf
    exact ⟨by rw [if_neg (fun q => c ((lg_cmp_lt _ _).mpr q)), f1], rfl⟩
/-! counts of the class over all 41 are those below G -/
theorem ct2_congr {p q : Nat → Nat → Bool} : ∀ {n : Nat}, (∀ g j, g < n → j < g → p g j = q g j) → ct2 p n = ct2 q n
  | 0, _ => rfl
  | n + 1, h => by rw [ct2, ct2, ct2_congr (fun g j hg hj => h g j (by omega) hj), ct_congr (fun j hj => h n j (by omega) hj)]
theorem ct_none {p : Nat → Bool} : ∀ {n : Nat}, (∀ k, k < n → p k = false) → ct p n = 0
  | 0, _ => rfl
  | n + 1, h => by rw [ct_f (h n (by omega)), ct_none (fun k hk => h k (by omega))]
theorem ct2_stop {p : Nat → Nat → Bool} {m : Nat} : ∀ {n : Nat}, m ≤ n → (∀ g j, m ≤ g → g < n → j < g → p g j = false) → ct2 p n = ct2 p m
  | 0, h, _ => by rw [show m = 0 by omega]
  | n + 1, h, hp => by
    by_cases he : m = n + 1
    · rw [he]
    · rw [ct2, ct_none (fun j hj => hp n j (by omega) (by omega) hj), Nat.add_zero]
      exact ct2_stop (by omega) (fun g j h1 h2 h3 => hp g j h1 (by omega) h3)
