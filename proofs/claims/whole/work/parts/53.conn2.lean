/-! Connectivity through judging -/
theorem jgS_V (A B : Nat → Nat) (m : Nat → Int64) (out : Nat → Int32) (s j : Nat) (t : jgT) (h : j ≠ s) : (jgS A B m out s t).2.2 j = t.2.2 j := by
  unfold jgS
  split
  · split
    · exact if_neg h
    · exact if_neg h
  · exact if_neg h
theorem jgR_keep (A B : Nat → Nat) (m : Nat → Int64) (out : Nat → Int32) (t : jgT) (s : Nat) : ∀ k, s < k → (jgR A B m out t k).2.2 s = (jgR A B m out t (s + 1)).2.2 s
  | 0, h => absurd h (Nat.not_lt_zero s)
  | k + 1, h => by
    by_cases e : s = k
    · rw [e]
    · rw [jgR, jgS_V _ _ _ _ _ _ _ e]
      exact jgR_keep A B m out t s k (by omega)
theorem wg_00 {L : Nat → Int32} {O : Nat → Int64} {a b : Nat} {m : Int64} (h : wgF L O a b m = 0) : ¬ L a = L b := by
  intro e
  unfold wgF at h
  rw [if_pos e] at h
  by_cases z : O a - O b = m
  · rw [if_pos z] at h; exact absurd h (by decide)
  · rw [if_neg z] at h; exact absurd h (by decide)
theorem wg_11 {L : Nat → Int32} {O : Nat → Int64} {a b : Nat} {m : Int64} (h : wgF L O a b m = 1) : L a = L b := by
  apply Classical.byContradiction
  intro e
  unfold wgF at h
  rw [if_neg e] at h
  split at h <;> exact absurd h (by decide)
theorem jnL_m {L : Nat → Int32} {a b : Nat} (hne : ¬ L a = L b) {x o : Nat} (hx : x < 41) (ho : o < 41) : jnL L a b x = jnL L a b o ↔ (L x = L o ∨ (L x = L a ∧ L o = L b) ∨ (L x = L b ∧ L o = L a)) := by
  unfold jnL
  by_cases hlt : L a < L b
  · rw [if_pos hlt]
    unfold mvL
    by_cases h1 : L x = L b
    · rw [if_pos ⟨hx, h1⟩]
      by_cases h2 : L o = L b
      · rw [if_pos ⟨ho, h2⟩]
        exact ⟨fun _ => Or.inl (h1.trans h2.symm), fun _ => rfl⟩
      · rw [if_neg (fun z => h2 z.2)]
        refine ⟨fun z => Or.inr (Or.inr ⟨h1, z.symm⟩), fun z => ?_⟩
        rcases z with z | ⟨z1, z2⟩ | ⟨z1, z2⟩
        · exact absurd (z.symm.trans h1) h2
        · exact absurd z2 h2
        · exact z2.symm
    · rw [if_neg (fun z => h1 z.2)]
      by_cases h2 : L o = L b
      · rw [if_pos ⟨ho, h2⟩]
        refine ⟨fun z => Or.inr (Or.inl ⟨z, h2⟩), fun z => ?_⟩
        rcases z with z | ⟨z1, z2⟩ | ⟨z1, z2⟩
        · exact absurd (z.trans h2) h1
        · exact z1
        · exact absurd z1 h1
      · rw [if_neg (fun z => h2 z.2)]
        refine ⟨Or.inl, fun z => ?_⟩
        rcases z with z | ⟨z1, z2⟩ | ⟨z1, z2⟩
        · exact z
        · exact absurd z2 h2
        · exact absurd z1 h1
  · rw [if_neg hlt]
    unfold mvL
    by_cases h1 : L x = L a
    · rw [if_pos ⟨hx, h1⟩]
      by_cases h2 : L o = L a
      · rw [if_pos ⟨ho, h2⟩]
        exact ⟨fun _ => Or.inl (h1.trans h2.symm), fun _ => rfl⟩
      · rw [if_neg (fun z => h2 z.2)]
        refine ⟨fun z => Or.inr (Or.inl ⟨h1, z.symm⟩), fun z => ?_⟩
        rcases z with z | ⟨z1, z2⟩ | ⟨z1, z2⟩
        · exact absurd (z.symm.trans h1) h2
        · exact z2.symm
        · exact absurd z2 h2
    · rw [if_neg (fun z => h1 z.2)]
      by_cases h2 : L o = L a
      · rw [if_pos ⟨ho, h2⟩]
        refine ⟨fun z => Or.inr (Or.inr ⟨z, h2⟩), fun z => ?_⟩
        rcases z with z | ⟨z1, z2⟩ | ⟨z1, z2⟩
        · exact absurd (z.trans h2) h1
        · exact absurd z1 h1
        · exact z1
      · rw [if_neg (fun z => h2 z.2)]
        refine ⟨Or.inl, fun z => ?_⟩
        rcases z with z | ⟨z1, z2⟩ | ⟨z1, z2⟩
        · exact z
        · exact absurd z1 h1
        · exact absurd z2 h2
theorem cn_jg {A B : Nat → Nat} {m : Nat → Int64} {out : Nat → Int32} {t : jgT} {G n : Nat} (hG : G ≤ 41) (hA : ∀ s, s < n → A s < G ∧ B s < G) {sd : Nat → Bool} (hsd : ∀ s, s < n → sd s = !decide ((1 : Int32) < (jgR A B m out t n).2.2 s)) (h0 : cnL sd A B G 0 t.1) : ∀ s, s ≤ n → cnL sd A B G s (jgR A B m out t s).1
  | 0, _ => h0
  | s + 1, hs => by
    have ih := cn_jg hG hA hsd h0 s (by omega)
    have hv := hsd s (by omega)
    rw [jgR_keep A B m out t s n (by omega)] at hv
    have hA2 : ∀ j, j < s + 1 → A j < G ∧ B j < G := fun j hj => hA j (by omega)
    rw [jgR] at hv ⊢
    generalize jgR A B m out t s = u at ih hv ⊢
    unfold jgS at hv ⊢
    by_cases ho : out s = 0
    · rw [if_pos ho] at hv ⊢
      by_cases hw : wgF u.1 u.2.1 (A s) (B s) (m s) = 0
      · rw [if_pos hw] at hv ⊢
        have hv : sd s = !decide ((1 : Int32) < upd u.2.2 s 0 s) := hv
        have hv : sd s = true := by rw [hv, show upd u.2.2 s 0 s = 0 from if_pos rfl]; rfl
        exact cnL_join hA2 ih hv (fun x o hx ho => jnL_m (wg_00 hw) (by omega) (by omega))
      · rw [if_neg hw] at hv ⊢
        have hv : sd s = !decide ((1 : Int32) < upd u.2.2 s (wgF u.1 u.2.1 (A s) (B s) (m s)) s) := hv
        rw [show upd u.2.2 s (wgF u.1 u.2.1 (A s) (B s) (m s)) s = wgF u.1 u.2.1 (A s) (B s) (m s) from if_pos rfl] at hv
        rcases wg_val u.1 u.2.1 (A s) (B s) (m s) with e | e | e | e
        · exact absurd e hw
        · rw [e] at hv
          exact cnL_known hA2 ih hv (wg_11 e)
        · rw [e] at hv
          exact cnL_skip ih hv
        · rw [e] at hv
          exact cnL_skip ih hv
    · rw [if_neg ho] at hv ⊢
      have hv : sd s = !decide ((1 : Int32) < upd u.2.2 s 4 s) := hv
      have hv : sd s = false := by rw [hv, show upd u.2.2 s 4 s = 4 from if_pos rfl]; rfl
      exact cnL_skip ih hv
