/-! The reference's isStep, laysChain -/
def isSt (sd : Nat → Bool) (A B : Nat → Nat) (F : Nat → Int32) (s g : Nat) : Bool := sd s && ((decide (A s = g) && decide (F (B s) = F g - 1)) || (decide (B s = g) && decide (F (A s) = F g - 1)))
theorem m_isStep (h : ia_H) (n G : Nat) (sd : Nat → Bool) (A B : Nat → Nat) (hd : mdOk h n G sd A B) (s g : Nat) (hs : s < n) (hg : g < G) : V_ 151 [.ref 52, .int (nI s), .int (nI g)] h (Z_ (.int (bif isSt sd A B (h.1 69) s g then 1 else 0)) h) := by
  obtain ⟨hn, hG, eN, eG, hS, hsd⟩ := hd
  obtain ⟨s1, s2, s3, s4, s5, s6⟩ := hS s hs
  refine ia_V_in ia_k_X8_isStep [some (.ref 52), some (.int (nI s)), some (.int (nI g))] rfl rfl (Nat.le_of_ble_eq_true rfl) rfl ?_
  refine ia_walk (fun _ => false) 90 (fun X hX => ?_)
  conv => whnf
  obtain ⟨x, ex, ev⟩ := ia_callN (f := Value.int) (m_isStanding h s (by omega))
  refine Exists.intro (_, _) (And.intro ev ?_)
  have ex : x = bif sd s then 1 else 0 := by rw [ex, s6]
  conv => whnf
  refine And.intro (fun c1 => ?_) (fun c1 => ?_)
  · have hsf : sd s = false := by
      cases hq : sd s
      · rfl
      · rw [hq] at ex; rw [ex] at c1; exact absurd c1 (by decide)
    conv => whnf
    exact ⟨Or.inl rfl, by simp only [isSt, hsf, Bool.false_and]; rfl, rfl⟩
  · have hst : sd s = true := by
      cases hq : sd s
      · rw [hq] at ex; exact absurd ex c1
      · rfl
    conv => whnf
    refine Exists.intro _ (And.intro (And.intro rfl (by omega)) ?_)
    conv => whnf
    refine And.intro (fun c2 => ?_) (fun c2 => ?_)
    · have hA : A s = g := nI_inj (by omega) (by omega) (s1.symm.trans c2)
      have hB : ¬ B s = g := fun q => s5 (hA.trans q.symm)
      conv => whnf
      refine Exists.intro _ (And.intro (And.intro rfl (by omega)) ?_)
      conv => whnf
      refine Exists.intro (B s) (And.intro (And.intro (s3) (by omega)) ?_)
      conv => whnf
      refine Exists.intro _ (And.intro (And.intro rfl (by omega)) ?_)
      conv => whnf
      refine And.intro (fun c3 => ?_) (fun c3 => ?_)
      · conv => whnf
        exact ⟨Or.inr rfl, by simp only [isSt, hst, decide_eq_true hA, decide_eq_true (show h.1 69 (B s) = h.1 69 g - 1 from c3), Bool.true_and, Bool.true_or]; rfl, rfl⟩
      · conv => whnf
        refine Exists.intro _ (And.intro (And.intro rfl (by omega)) ?_)
        conv => whnf
        refine And.intro (fun c4 => ?_) (fun c4 => ?_)
        · exact absurd (nI_inj (by omega) (by omega) (s3.symm.trans c4)) hB
        · conv => whnf
          exact ⟨Or.inl rfl, by simp only [isSt, hst, decide_eq_false (show ¬ h.1 69 (B s) = h.1 69 g - 1 from c3), decide_eq_false hB, Bool.and_false, Bool.false_and, Bool.or_false]; rfl, rfl⟩
    · have hA : ¬ A s = g := fun q => c2 (by show h.1 56 s = nI g; rw [s1, q])
      conv => whnf
      refine Exists.intro _ (And.intro (And.intro rfl (by omega)) ?_)
      conv => whnf
      refine And.intro (fun c3 => ?_) (fun c3 => ?_)
      · have hB : B s = g := nI_inj (by omega) (by omega) (s3.symm.trans c3)
        conv => whnf
        refine Exists.intro _ (And.intro (And.intro rfl (by omega)) ?_)
        conv => whnf
        refine Exists.intro (A s) (And.intro (And.intro (s1) (by omega)) ?_)
        conv => whnf
        refine Exists.intro _ (And.intro (And.intro rfl (by omega)) ?_)
        conv => whnf
        refine And.intro (fun c4 => ?_) (fun c4 => ?_)
        · conv => whnf
          exact ⟨Or.inr rfl, by simp only [isSt, hst, decide_eq_false hA, decide_eq_true hB, decide_eq_true (show h.1 69 (A s) = h.1 69 g - 1 from c4), Bool.true_and, Bool.false_and, Bool.false_or]; rfl, rfl⟩
        · conv => whnf
          exact ⟨Or.inl rfl, by simp only [isSt, hst, decide_eq_false hA, decide_eq_false (show ¬ h.1 69 (A s) = h.1 69 g - 1 from c4), Bool.and_false, Bool.false_and, Bool.or_false]; rfl, rfl⟩
      · have hB : ¬ B s = g := fun q => c3 (by show h.1 57 s = nI g; rw [s3, q])
        conv => whnf
        exact ⟨Or.inl rfl, by simp only [isSt, decide_eq_false hA, decide_eq_false hB, Bool.false_and, Bool.or_false, Bool.and_false]; rfl, rfl⟩
/-- the first way that is nearer is the first statement that is a step -/
theorem isSt_nx {sd : Nat → Bool} {A B : Nat → Nat} {F : Nat → Int32} {g v : Nat} (hv : nxP (cst sd) (csr A B) (cdt A B) F g v) : isSt sd A B F (v / 2) g = true ∧ ∀ s, s < v / 2 → isSt sd A B F s g = false := by
  obtain ⟨v1, ⟨v2, v3, v4⟩, v5⟩ := hv
  refine ⟨?_, fun s hs => ?_⟩
  · have v2 : sd (v / 2) = true := v2
    unfold csr at v3
    unfold cdt at v4
    by_cases hp : v % 2 = 0
    · rw [if_pos hp] at v3 v4
      simp only [isSt, v2, decide_eq_true v3, decide_eq_true v4, Bool.true_and, Bool.true_or]
    · rw [if_neg hp] at v3 v4
      simp only [isSt, v2, decide_eq_true v3, decide_eq_true v4, Bool.true_and, Bool.or_true]
  · obtain ⟨e1, e2, e3⟩ := c_even sd A B s
    obtain ⟨o1, o2, o3⟩ := c_odd sd A B s
    have n1 := v5 (2 * s) (by omega)
    have n2 := v5 (2 * s + 1) (by omega)
    rw [e1, e2, e3] at n1
    rw [o1, o2, o3] at n2
    unfold isSt
    cases hq : sd s
    · rfl
    · rw [hq] at n1 n2
      simp only [Bool.true_and, Bool.or_eq_false_iff, Bool.and_eq_false_iff, decide_eq_false_iff_not]
      refine ⟨?_, ?_⟩
      · by_cases hA : A s = g
        · exact Or.inr (fun q => n1 ⟨rfl, hA, q⟩)
        · exact Or.inl hA
      · by_cases hB : B s = g
        · exact Or.inr (fun q => n2 ⟨rfl, hB, q⟩)
        · exact Or.inl hB
theorem l_mchain (h : ia_H) (n G : Nat) (sd : Nat → Bool) (A B : Nat → Nat) (hd : mdOk h n G sd A B) (nx : Nat → Nat) (x o N : Nat) (hN : N < 41) (ho : o < G) (P : Nat → Prop) (hPG : ∀ g, P g → g < G) (hP : P x) (hx : h.1 69 x = nI N) (h0 : ∀ g, P g → (h.1 69 g = 0 ↔ g = o)) (hnx : ∀ g, P g → ¬ h.1 69 g = 0 → nxP (cst sd) (csr A B) (cdt A B) (h.1 69) g (nx g) ∧ P (cdt A B (nx g))) {Z : Option Value → ia_H → Prop} (hZ : ∀ T : Nat → Int32, (∀ k, k < N → T k = nI (nx (chA (cdt A B) nx x k) / 2)) → Z (some (.int (nI N))) (hsI h 70 T)) : ∀ (k j : Nat) (a5 : Option Value), j + k = N → ∀ T : Nat → Int32, (∀ i, i < j → T i = nI (nx (chA (cdt A B) nx x i) / 2)) → R_ ia_k_X8_laysChain Z (27, [some (.ref 52), some (.int (nI x)), some (.int (nI o)), some (.int (nI (chA (cdt A B) nx x j))), some (.int (nI j)), a5], [], hsI h 70 T) := by
  have hd0 := hd
  obtain ⟨hn, hG, eN, eG, hS, hsd⟩ := hd
  intro k
  induction k with
  | zero =>
    intro j a5 hj T hT
    have ej : j = N := by omega
    subst ej
    obtain ⟨d1, d2⟩ := chA_d (st := cst sd) (sr := csr A B) (by omega) hx P hP hnx j (Nat.le_refl _)
    rw [Nat.sub_self] at d1
    have eo : chA (cdt A B) nx x j = o := (h0 _ d2).mp d1
    refine ia_walk (fun pc => Nat.beq pc 27) 60 (fun X hX => ?_)
    conv => whnf
    refine And.intro (fun c => ?_) (fun c => ?_)
    · conv => whnf
      exact hZ T hT
    · exact absurd (by rw [eo]) c
  | succ k ih =>
    intro j a5 hj T hT
    obtain ⟨d1, d2⟩ := chA_d (st := cst sd) (sr := csr A B) (by omega) hx P hP hnx j (by omega)
    have hne : ¬ h.1 69 (chA (cdt A B) nx x j) = 0 := by rw [d1]; exact nI_ne0 (by omega) (by omega)
    obtain ⟨j1, j2⟩ := hnx _ d2 hne
    have hgG := hPG _ d2
    have hno : ¬ chA (cdt A B) nx x j = o := fun q => hne ((h0 _ d2).mpr q)
    obtain ⟨t1, t2⟩ := isSt_nx j1
    have ech : chA (cdt A B) nx x (j + 1) = cdt A B (nx (chA (cdt A B) nx x j)) := rfl
    generalize hgg : chA (cdt A B) nx x j = g at *
    generalize hvv : nx g = v at *
    have hsn : v / 2 < n := by
      rcases Nat.lt_or_ge (v / 2) n with q | q
      · exact q
      · have : sd (v / 2) = true := j1.2.1.1
        rw [hsd _ q] at this; cases this
    obtain ⟨s1, s2, s3, s4, s5, s6⟩ := hS _ hsn
    -- the end of a round, with the statement found
    have fin : R_ ia_k_X8_laysChain Z (51, [some (.ref 52), some (.int (nI x)), some (.int (nI o)), some (.int (nI g)), some (.int (nI j)), some (.int (nI (v / 2)))], [], hsI h 70 T) := by
      have put : ∀ t : Nat, t = cdt A B v → R_ ia_k_X8_laysChain Z (91, [some (.ref 52), some (.int (nI x)), some (.int (nI o)), some (.int (nI g)), some (.int (nI (j + 1))), some (.int (nI (v / 2)))], [.int (nI t)], hsI h 70 (upd T j (nI (v / 2)))) := by
        intro t ht
        refine ia_walk (fun pc => Nat.beq pc 27) 60 (fun X hX => ?_)
        conv => whnf
        rw [ht, ← ech]
        exact hX _ (ih (j + 1) _ (by omega) (upd T j (nI (v / 2))) (fun i hi => by
          simp only [upd]
          by_cases hij : i = j
          · subst hij; rw [if_pos rfl, hgg, hvv]
          · rw [if_neg hij]; exact hT i (by omega)))
      have e : hsI (hsI h 70 T) 70 (upd T j (nI (v / 2))) = hsI h 70 (upd T j (nI (v / 2))) := hsI_same _ _ _ _
      refine ia_walk (fun pc => Nat.beq pc 91) 60 (fun X hX => ?_)
      conv => whnf
      refine Exists.intro _ (And.intro (And.intro rfl (by omega)) ?_)
      conv => whnf
      refine Exists.intro _ (And.intro (And.intro rfl (by omega)) ?_)
      conv => whnf
      refine And.intro (fun c => ?_) (fun c => ?_)
      · have hA : A (v / 2) = g := nI_inj (by omega) (by omega) (s1.symm.trans c)
        conv => whnf
        refine Exists.intro _ (And.intro (And.intro rfl (by omega)) ?_)
        conv => whnf
        rw [nI_1]
        have pt := put (B (v / 2)) (by
          have w1 : csr A B v = g := j1.2.1.2.1
          unfold csr at w1
          unfold cdt
          by_cases hp : v % 2 = 0
          · rw [if_pos hp]
          · rw [if_neg hp] at w1 ⊢
            exact absurd (hA.trans w1.symm) s5)
        rw [← e, ← s3] at pt
        exact hX _ pt
      · have hA : ¬ A (v / 2) = g := fun q => c (by show h.1 56 (v / 2) = nI g; rw [s1, q])
        conv => whnf
        refine Exists.intro _ (And.intro (And.intro rfl (by omega)) ?_)
        conv => whnf
        rw [nI_1]
        have pt := put (A (v / 2)) (by
          have w1 : csr A B v = g := j1.2.1.2.1
          unfold csr at w1
          unfold cdt
          by_cases hp : v % 2 = 0
          · rw [if_pos hp] at w1
            exact absurd w1 hA
          · rw [if_neg hp])
        rw [← e, ← s1] at pt
        exact hX _ pt
    have inner : ∀ (k2 s : Nat), s + k2 = v / 2 → R_ ia_k_X8_laysChain Z (35, [some (.ref 52), some (.int (nI x)), some (.int (nI o)), some (.int (nI g)), some (.int (nI j)), some (.int (nI s))], [], hsI h 70 T) := by
      intro k2
      induction k2 with
      | zero =>
        intro s hs
        have es : s = v / 2 := by omega
        subst es
        refine ia_walk (fun pc => Nat.beq pc 51) 60 (fun X hX => ?_)
        have ms := m_isStep (hsI h 70 T) n G sd A B hd0 (v / 2) g hsn hgG
        rw [show isSt sd A B ((hsI h 70 T).1 69) (v / 2) g = true from t1] at ms
        conv => whnf
        refine Exists.intro (_, _) (And.intro (ia_callE (ms)) ?_)
        conv => whnf
        refine And.intro (fun c => ?_) (fun c => ?_)
        · exact absurd c (by decide)
        · conv => whnf
          exact hX _ (fin)
      | succ k2 ih2 =>
        intro s hs
        refine ia_walk (fun pc => Nat.beq pc 35) 60 (fun X hX => ?_)
        have ms := m_isStep (hsI h 70 T) n G sd A B hd0 s g (by omega) hgG
        rw [show isSt sd A B ((hsI h 70 T).1 69) s g = false from t2 s (by omega)] at ms
        conv => whnf
        refine Exists.intro (_, _) (And.intro (ia_callE (ms)) ?_)
        conv => whnf
        refine And.intro (fun c => ?_) (fun c => ?_)
        · conv => whnf
          rw [nI_1]
          exact hX _ (ih2 (s + 1) (by omega))
        · exact absurd rfl c
    refine ia_walk (fun pc => Nat.beq pc 35) 60 (fun X hX => ?_)
    conv => whnf
    refine And.intro (fun c => ?_) (fun c => ?_)
    · exact absurd (nI_inj (by omega) (by omega) c) hno
    · conv => whnf
      exact hX _ (inner (v / 2) 0 (by omega))
