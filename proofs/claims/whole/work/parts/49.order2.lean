/-! order and span, class and reference side by side -/
theorem nI_dec (k : Nat) : nI (k + 1) + (-1) = nI k := by
  rw [← nI_1, Int32.add_assoc]
  exact Int32.add_zero _
abbrev inF (h : ia_H) (a : Nat) : Nat → Bool := fun j => decide (h.1 60 j = h.1 60 a)
theorem l_lo1 (h : ia_H) (a g n : Nat) (hg : g < 41) (q : Nat → Nat) (hq : orI (h.2 61) (inF h a) g n q) (hin : inF h a g = true) (a1 : Int32) {Z : Option Value → ia_H → Prop} (hZ : ∀ (a4 : Option Value) (q2 : Nat → Nat) (R2 : Nat → Int32), orI (h.2 61) (inF h a) (g + 1) (n + 1) q2 → (∀ i, i < n + 1 → R2 i = nI (q2 i)) → R_ ia_k_X8_laysOrder Z (4, [some (.ref 52), some (.int a1), some (.int (nI (n + 1))), some (.int (nI (g + 1))), a4], [], hsI h 68 R2)) :
    ∀ (k : Nat) (R : Nat → Int32), k ≤ n → (∀ i, i < k → R i = nI (q i)) → (∀ i, k ≤ i → i < n → R (i + 1) = nI (q i)) → (∀ i, k ≤ i → i < n → ahd (h.2 61) g (q i) = true) → R_ ia_k_X8_laysOrder Z (33, [some (.ref 52), some (.int a1), some (.int (nI n)), some (.int (nI g)), some (.int (nI k))], [], hsI h 68 R) := by
  have hn := hq.1
  have hend : ∀ (k : Nat) (R : Nat → Int32), k ≤ n → (∀ i, i < k → R i = nI (q i)) → (∀ i, k ≤ i → i < n → R (i + 1) = nI (q i)) → (∀ i, k ≤ i → i < n → ahd (h.2 61) g (q i) = true) → (∀ i, i < k → ahd (h.2 61) (q i) g = true) → R_ ia_k_X8_laysOrder Z (77, [some (.ref 52), some (.int a1), some (.int (nI n)), some (.int (nI g)), some (.int (nI k))], [], hsI h 68 R) := by
    intro k R hk hlo hhi ha hb
    refine ia_walk (fun pc => Nat.beq pc 4) 60 (fun X hX => ?_)
    conv => whnf
    refine Exists.intro _ (And.intro (And.intro rfl (by omega)) ?_)
    conv => whnf
    rw [nI_1, nI_1]
    have := hZ (some (.int (nI k))) (orQ q k g) (upd R k (nI g)) (orI_put hq hin hk hb ha) (fun i hi => by
      simp only [upd, orQ]
      by_cases z1 : i = k
      · rw [if_pos z1, if_neg (by omega), if_pos z1]
      · rw [if_neg z1]
        by_cases z2 : i < k
        · rw [if_pos z2]; exact hlo i z2
        · rw [if_neg z2, if_neg z1]
          have := hhi (i - 1) (by omega) (by omega)
          rw [show i - 1 + 1 = i by omega] at this
          exact this)
    rw [← hsI_same h 68 R] at this
    exact hX _ this
  intro k
  induction k with
  | zero =>
    intro R hk hlo hhi ha
    refine ia_walk (fun pc => Nat.beq pc 77) 60 (fun X hX => ?_)
    conv => whnf
    refine And.intro (fun c => ?_) (fun c => ?_)
    · exact absurd (show (0 : Int32) < nI 0 from c) (by decide)
    · conv => whnf
      exact hX _ (hend 0 R hk hlo hhi ha (fun i hi => absurd hi (Nat.not_lt_zero i)))
  | succ k ih =>
    intro R hk hlo hhi ha
    have hqk := (hq.2.1 k (by omega)).1
    have e1 := hlo k (by omega)
    refine ia_walk (fun pc => Nat.beq pc 77 || Nat.beq pc 33) 60 (fun X hX => ?_)
    conv => whnf
    refine And.intro (fun c => ?_) (fun c => ?_)
    · conv => whnf
      refine Exists.intro (k) (And.intro (And.intro (nI_pred k) (by omega)) ?_)
      have hah := m_isAhead (hsI h 68 R) g (q k) hg (by omega)
      rw [← e1] at hah
      conv => whnf
      obtain ⟨v, ev, ev'⟩ := ia_callN hah
      refine Exists.intro (_, _) (And.intro ev' ?_)
      clear ev'
      conv => whnf
      refine And.intro (fun c2 => ?_) (fun c2 => ?_)
      · have hf : ahd (h.2 61) g (q k) = false := by
          cases e : ahd (h.2 61) g (q k)
          · rfl
          · have e : ahd ((hsI h 68 R).2 61) g (q k) = true := e
            rw [ev, e] at c2; exact absurd c2 (by decide)
        have hf := (ahd_f _ _ _).mp hf
        conv => whnf
        refine hX _ (hend (k + 1) R hk hlo hhi ha (fun i hi => ?_))
        by_cases z : i = k
        · rw [z]; exact (ahd_i _ _ _).mpr (by omega)
        · have := (ahd_i _ _ _).mp (hq.2.2.2.1 i k (by omega) (by omega))
          exact (ahd_i _ _ _).mpr (by omega)
      · have ht : ahd (h.2 61) g (q k) = true := by
          cases e : ahd (h.2 61) g (q k)
          · have e : ahd ((hsI h 68 R).2 61) g (q k) = false := e
            rw [ev, e] at c2; exact absurd rfl c2
          · rfl
        conv => whnf
        refine Exists.intro (k) (And.intro (And.intro (nI_pred k) (by omega)) ?_)
        conv => whnf
        refine Exists.intro _ (And.intro (And.intro rfl (by omega)) ?_)
        conv => whnf
        rw [nI_dec]
        have := ih (upd R (k + 1) (R k)) (by omega) (fun i hi => by
          simp only [upd]
          rw [if_neg (by omega)]; exact hlo i (by omega)) (fun i h1 h2 => by
          simp only [upd]
          by_cases z : i = k
          · rw [if_pos (by omega), z]; exact e1
          · rw [if_neg (by omega)]; exact hhi i (by omega) h2) (fun i h1 h2 => by
          by_cases z : i = k
          · rw [z]; exact ht
          · exact ha i (by omega) h2)
        rw [← hsI_same h 68 R] at this
        exact hX _ this
    · exact absurd (show (0 : Int32) < nI (k + 1) from nI_lt (a := 0) (by omega) (by omega)) c
theorem l_lo0 (h : ia_H) (a G : Nat) (ha : a < G) (hG : G ≤ 41) (eG : h.1 52 4 = nI G) {Z : Option Value → ia_H → Prop} (hZ : ∀ (n : Nat) (q : Nat → Nat) (R : Nat → Int32), orI (h.2 61) (inF h a) G n q → (∀ i, i < n → R i = nI (q i)) → Z (some (.int (nI n))) (hsI h 68 R)) :
    ∀ (k g n : Nat) (q : Nat → Nat) (R : Nat → Int32) (a4 : Option Value), g + k = G → orI (h.2 61) (inF h a) g n q → (∀ i, i < n → R i = nI (q i)) → R_ ia_k_X8_laysOrder Z (4, [some (.ref 52), some (.int (nI a)), some (.int (nI n)), some (.int (nI g)), a4], [], hsI h 68 R) := by
  intro k
  induction k with
  | zero =>
    intro g n q R a4 hg hq hR
    rw [show g = G by omega] at hq ⊢
    refine ia_walk (fun pc => Nat.beq pc 4) 60 (fun X hX => ?_)
    conv => whnf
    refine And.intro (fun c => ?_) (fun c => ?_)
    · exact absurd (show nI G < h.1 52 4 from c) (by rw [eG]; exact nI_nlt (by omega) (by omega))
    · conv => whnf
      exact hZ n q R hq hR
  | succ k ih =>
    intro g n q R a4 hg hq hR
    have hn := hq.1
    refine ia_walk (fun pc => Nat.beq pc 4 || Nat.beq pc 33) 60 (fun X hX => ?_)
    conv => whnf
    refine And.intro (fun c => ?_) (fun c => ?_)
    · conv => whnf
      refine Exists.intro _ (And.intro (And.intro rfl (by omega)) ?_)
      conv => whnf
      refine Exists.intro _ (And.intro (And.intro rfl (by omega)) ?_)
      conv => whnf
      refine And.intro (fun c2 => ?_) (fun c2 => ?_)
      · conv => whnf
        exact hX _ (l_lo1 h a g n (by omega) q hq (decide_eq_true c2) (nI a) (fun a4 q2 R2 z1 z2 => ih (g + 1) (n + 1) q2 R2 a4 (by omega) z1 z2) n R (Nat.le_refl n) hR (fun i h1 h2 => absurd h2 (by omega)) (fun i h1 h2 => absurd h2 (by omega)))
      · conv => whnf
        rw [nI_1]
        exact hX _ (ih (g + 1) n q R a4 (by omega) (orI_skip hq (decide_eq_false c2)) hR)
    · exact absurd (show nI g < h.1 52 4 by rw [eG]; exact nI_lt (by omega) (by omega)) c
theorem m_laysOrder (h : ia_H) (a G : Nat) (ha : a < G) (hG : G ≤ 41) (eG : h.1 52 4 = nI G) : V_ 144 [.ref 52, .int (nI a)] h (fun r h' => ∃ (n : Nat) (q : Nat → Nat) (R : Nat → Int32), orI (h.2 61) (inF h a) G n q ∧ (∀ i, i < n → R i = nI (q i)) ∧ r = some (.int (nI n)) ∧ h' = hsI h 68 R) := by
  have l := l_lo0 h a G ha hG eG (Z := fun r h' => ∃ (n : Nat) (q : Nat → Nat) (R : Nat → Int32), orI (h.2 61) (inF h a) G n q ∧ (∀ i, i < n → R i = nI (q i)) ∧ r = some (.int (nI n)) ∧ h' = hsI h 68 R) (fun n q R z1 z2 => ⟨n, q, R, z1, z2, rfl, rfl⟩) G 0 0 (fun _ => 0) (h.1 68) none (by omega) ⟨Nat.le_refl 0, fun i hi => absurd hi (Nat.not_lt_zero i), fun j hj => absurd hj (Nat.not_lt_zero j), fun i k _ hk => absurd hk (Nat.not_lt_zero k), fun i hi => absurd hi (Nat.not_lt_zero i)⟩ (fun i hi => absurd hi (Nat.not_lt_zero i))
  rw [hsI_eta] at l
  refine ia_V_in ia_k_X8_laysOrder [some (.ref 52), some (.int (nI a)), none, none, none] rfl rfl (Nat.le_of_ble_eq_true rfl) rfl ?_
  refine ia_walk (fun pc => Nat.beq pc 4) 60 (fun X hX => ?_)
  conv => whnf
  exact hX _ (l)
