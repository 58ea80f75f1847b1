/-! A path that is laid makes the flow from its root one more; it never passes how many statements stand -/
def smN (f : Nat → Int) : Nat → Int
  | 0 => 0
  | n + 1 => smN f n + f n
theorem smN_congr {f g : Nat → Int} : ∀ {n : Nat}, (∀ k, k < n → f k = g k) → smN f n = smN g n
  | 0, _ => rfl
  | n + 1, h => by rw [smN, smN, smN_congr (fun k hk => h k (by omega)), h n (by omega)]
theorem smN_one {f g : Nat → Int} {i : Nat} : ∀ {n : Nat}, i < n → (∀ k, k < n → k ≠ i → f k = g k) → smN f n = smN g n + (f i - g i)
  | 0, h, _ => absurd h (Nat.not_lt_zero i)
  | n + 1, h, hk => by
    rw [smN, smN]
    by_cases hi : i = n
    · subst hi
      rw [smN_congr (fun k hk2 => hk k (by omega) (by omega))]
      omega
    · rw [smN_one (n := n) (by omega) (fun k h1 h2 => hk k (by omega) h2), hk n (by omega) (fun q => hi q.symm)]
      omega
theorem smN_le {f : Nat → Int} {p : Nat → Bool} : ∀ {n : Nat}, (∀ k, k < n → f k ≤ if p k = true then 1 else 0) → smN f n ≤ ct p n
  | 0, _ => by simp [smN, ct]
  | n + 1, h => by
    have ih := smN_le (f := f) (p := p) (n := n) (fun k hk => h k (by omega))
    have hn := h n (by omega)
    rw [smN, ct]
    cases hp : p n
    · rw [hp] at hn
      simp at hn ⊢
      omega
    · rw [hp] at hn
      simp at hn ⊢
      omega
/-- flows are -1, 0, 1 -/
def flB (fl : Nat → Int32) : Prop := ∀ s, s < 120 → fl s = -1 ∨ fl s = 0 ∨ fl s = 1
/-- what a statement carries from the root -/
def flC (sd : Nat → Bool) (A B : Nat → Nat) (r : Nat) (fl : Nat → Int32) (s : Nat) : Int := if sd s = true then (if A s = r then (fl s).toInt else if B s = r then -(fl s).toInt else 0) else 0
def flN (sd : Nat → Bool) (A B : Nat → Nat) (r : Nat) (fl : Nat → Int32) : Int := smN (flC sd A B r fl) 120
theorem flN_le {sd : Nat → Bool} {A B : Nat → Nat} {r : Nat} {fl : Nat → Int32} (h : flB fl) : flN sd A B r fl ≤ ct sd 120 := by
  refine smN_le (fun k hk => ?_)
  unfold flC
  by_cases hs : sd k = true
  · rw [if_pos hs, if_pos hs]
    have e : (fl k).toInt = -1 ∨ (fl k).toInt = 0 ∨ (fl k).toInt = 1 := by
      rcases h k hk with q | q | q
      · rw [q]; exact Or.inl (by decide)
      · rw [q]; exact Or.inr (Or.inl (by decide))
      · rw [q]; exact Or.inr (Or.inr (by decide))
    split
    · omega
    · split <;> omega
  · rw [if_neg hs, if_neg hs]
    exact Int.le_refl 0
theorem ct_lt {p : Nat → Bool} {i : Nat} : ∀ {n : Nat}, i < n → p i = false → ct p n < n
  | 0, h, _ => absurd h (Nat.not_lt_zero i)
  | n + 1, h, hi => by
    by_cases e : i = n
    · subst e
      rw [ct_f hi]
      have := ct_le p i
      omega
    · have ih := ct_lt (p := p) (i := i) (n := n) (by omega) hi
      rw [ct]
      cases p n <;> simp <;> omega
theorem flU_at (fl : Nat → Int32) (w : Nat) : flU fl w (w / 2) = fl (w / 2) + (if w % 2 = 0 then 1 else -1) := if_pos rfl
theorem flU_ne {fl : Nat → Int32} {w s : Nat} (h : s ≠ w / 2) : flU fl w s = fl s := if_neg h
theorem flow_step {fl f : Nat → Int32} {w : Nat} (hb : flB fl) (hw : w < 240) (hr : rmF fl w = true) (hf : flB f) (e : f (w / 2) = fl (w / 2)) : flB (flU f w) ∧ (w % 2 = 0 → (flU f w (w / 2)).toInt = (f (w / 2)).toInt + 1) ∧ (¬ w % 2 = 0 → (flU f w (w / 2)).toInt = (f (w / 2)).toInt - 1) := by
  have hv := hb (w / 2) (by omega)
  unfold rmF at hr
  by_cases hp : w % 2 = 0
  · rw [if_pos hp] at hr
    have hr := of_decide_eq_true hr
    have key : flU f w (w / 2) = 0 ∧ f (w / 2) = -1 ∨ flU f w (w / 2) = 1 ∧ f (w / 2) = 0 := by
      rw [flU_at, if_pos hp, e]
      rcases hv with q | q | q
      · rw [q]; exact Or.inl ⟨by decide, rfl⟩
      · rw [q]; exact Or.inr ⟨by decide, rfl⟩
      · rw [q] at hr; exact absurd hr (by decide)
    refine ⟨fun s hs => ?_, fun _ => ?_, fun q => absurd hp q⟩
    · by_cases es : s = w / 2
      · rw [es]
        rcases key with ⟨q, -⟩ | ⟨q, -⟩
        · rw [q]; exact Or.inr (Or.inl rfl)
        · rw [q]; exact Or.inr (Or.inr rfl)
      · rw [flU_ne es]; exact hf s hs
    · rcases key with ⟨q, q2⟩ | ⟨q, q2⟩
      · rw [q, q2]; decide
      · rw [q, q2]; decide
  · rw [if_neg hp] at hr
    have hr := of_decide_eq_true hr
    have key : flU f w (w / 2) = -1 ∧ f (w / 2) = 0 ∨ flU f w (w / 2) = 0 ∧ f (w / 2) = 1 := by
      rw [flU_at, if_neg hp, e]
      rcases hv with q | q | q
      · rw [q] at hr; exact absurd hr (by decide)
      · rw [q]; exact Or.inl ⟨by decide, rfl⟩
      · rw [q]; exact Or.inr ⟨by decide, rfl⟩
    refine ⟨fun s hs => ?_, fun q => absurd q hp, fun _ => ?_⟩
    · by_cases es : s = w / 2
      · rw [es]
        rcases key with ⟨q, -⟩ | ⟨q, -⟩
        · rw [q]; exact Or.inl rfl
        · rw [q]; exact Or.inr (Or.inl rfl)
      · rw [flU_ne es]; exact hf s hs
    · rcases key with ⟨q, q2⟩ | ⟨q, q2⟩
      · rw [q, q2]; decide
      · rw [q, q2]; decide
/-- the two ends of a way are those of its statement -/
theorem c_ends (A B : Nat → Nat) (w : Nat) : (w % 2 = 0 ∧ csr A B w = A (w / 2) ∧ cdt A B w = B (w / 2)) ∨ (¬ w % 2 = 0 ∧ csr A B w = B (w / 2) ∧ cdt A B w = A (w / 2)) := by
  unfold csr cdt
  by_cases hp : w % 2 = 0
  · rw [if_pos hp, if_pos hp]; exact Or.inl ⟨hp, rfl, rfl⟩
  · rw [if_neg hp, if_neg hp]; exact Or.inr ⟨hp, rfl, rfl⟩
theorem flow_path {sd : Nat → Bool} {A B : Nat → Nat} {fl : Nat → Int32} {S : bsT} {r m : Nat} {wy : Nat → Nat} (hm : m ≤ 41) (hok : bsOk m S) (hp : ptOk (cst sd) (csr A B) (cdt A B) (rmF fl) S r wy) (hb : flB fl) (hab : ∀ s, s < 120 → A s ≠ B s) : ∀ (k g : Nat) (f : Nat → Int32), k ≤ 40 → g ∈ S.1 → S.2.1 g = nI k → flB f → (∀ g2 j, g2 ∈ S.1 → S.2.1 g2 = nI j → 1 ≤ j → j ≤ k → f (wy g2 / 2) = fl (wy g2 / 2)) → flB (pfF wy (csr A B) k g f) ∧ flN sd A B r (pfF wy (csr A B) k g f) = flN sd A B r f + (if k = 0 then 0 else 1) := by
  have hlen := bsOk_len hok
  have hroot : ∀ g, g ∈ S.1 → ∀ j, S.2.1 g = nI j → j ≤ 41 → (g = r ↔ j = 0) := by
    intro g hg j hj hj41
    rcases hp g hg with ⟨q1, -, q3⟩ | ⟨q1, -, -, -, -, -, q6, q7⟩
    · rw [hj] at q3
      have : j = 0 := nI_inj (b := 0) (by omega) (by decide) q3
      exact ⟨fun _ => this, fun _ => q1⟩
    · obtain ⟨-, i, i1, i2⟩ := hok.2.1 _ q6
      rw [i2, hj, nI_1] at q7
      have := nI_inj (by omega) (by omega) q7
      exact ⟨fun q => absurd q q1, fun q => by omega⟩
  intro k
  induction k with
  | zero =>
    intro g f _ _ _ hf _
    exact ⟨hf, by rw [if_pos rfl, Int.add_zero]; rfl⟩
  | succ k ih =>
    intro g f hk40 hg hk hf he
    rcases hp g hg with ⟨-, -, q⟩ | ⟨hgr, w1, w2, w3, w4, w5, w6, w7⟩
    · rw [hk] at q
      exact absurd q (nI_ne0 (by omega) (by omega))
    · obtain ⟨-, i, i1, i2⟩ := hok.2.1 _ w6
      have eik : i = k := by
        rw [i2, hk, nI_1] at w7
        have := nI_inj (by omega) (by omega) w7
        omega
      subst eik
      have ef := he g (i + 1) hg hk (by omega) (Nat.le_refl _)
      obtain ⟨fb1, fe, fo⟩ := flow_step hb w1 w3 hf ef
      have dist : ∀ g2 j, g2 ∈ S.1 → S.2.1 g2 = nI j → 1 ≤ j → j ≤ i → wy g2 / 2 ≠ wy g / 2 := by
        intro g2 j h2 hj j1 j2 hs
        rcases hp g2 h2 with ⟨-, -, q⟩ | ⟨-, v1, v2, v3, v4, v5, v6, v7⟩
        · rw [hj] at q
          exact absurd q (nI_ne0 (by omega) (by omega))
        · have dg : ∀ x, x ∈ S.1 → x = g → S.2.1 x = nI (i + 1) := fun x _ e => by rw [e]; exact hk
          have n1 : ¬ g2 = g := fun e => by
            rw [e, hk] at hj
            have := nI_inj (by omega) (by omega) hj
            omega
          have n2 : ¬ csr A B (wy g2) = g := fun e => by
            obtain ⟨-, l, l1, l2⟩ := hok.2.1 _ v6
            rw [l2, hj, nI_1] at v7
            have := nI_inj (by omega) (by omega) v7
            rw [e, hk] at l2
            have := nI_inj (by omega) (by omega) l2
            omega
          rcases c_ends A B (wy g) with ⟨-, -, a3⟩ | ⟨-, -, a3⟩
          · rcases c_ends A B (wy g2) with ⟨-, b2, b3⟩ | ⟨-, b2, b3⟩
            · exact n1 (by rw [← v4, b3, hs, ← a3, w4])
            · exact n2 (by rw [b2, hs, ← a3, w4])
          · rcases c_ends A B (wy g2) with ⟨-, b2, b3⟩ | ⟨-, b2, b3⟩
            · exact n2 (by rw [b2, hs, ← a3, w4])
            · exact n1 (by rw [← v4, b3, hs, ← a3, w4])
      obtain ⟨r1, r2⟩ := ih (csr A B (wy g)) (flU f (wy g)) (by omega) w6 i2 fb1 (fun g2 j h2 hj j1 j2 => by
        rw [flU_ne (dist g2 j h2 hj j1 j2)]
        exact he g2 j h2 hj j1 (by omega))
      refine ⟨r1, ?_⟩
      show flN sd A B r (pfF wy (csr A B) i (csr A B (wy g)) (flU f (wy g))) = _
      rw [r2, if_neg (show ¬ i + 1 = 0 by omega)]
      have hsd : sd (wy g / 2) = true := w2
      have e1 : flN sd A B r (flU f (wy g)) = flN sd A B r f + (flC sd A B r (flU f (wy g)) (wy g / 2) - flC sd A B r f (wy g / 2)) := by
        refine smN_one (by omega) (fun s hs hne => ?_)
        unfold flC
        rw [flU_ne hne]
      have hsr := hroot _ w6 i i2 (by omega)
      have hne2 := hab (wy g / 2) (by omega)
      rw [e1]
      unfold flC
      rw [if_pos hsd, if_pos hsd]
      rcases c_ends A B (wy g) with ⟨a1, a2, a3⟩ | ⟨a1, a2, a3⟩
      · rw [w4] at a3
        rw [a2] at hsr
        rw [fe a1]
        by_cases hi : i = 0
        · have hA := hsr.mpr hi
          rw [if_pos hA, if_pos hA, if_pos hi]
          omega
        · have hA : ¬ A (wy g / 2) = r := fun q => hi (hsr.mp q)
          rw [if_neg hA, if_neg hA, if_neg (by rw [← a3]; exact hgr), if_neg (by rw [← a3]; exact hgr), if_neg hi]
          omega
      · rw [w4] at a3
        rw [a2] at hsr
        rw [fo a1]
        have hA : ¬ A (wy g / 2) = r := by rw [← a3]; exact hgr
        rw [if_neg hA, if_neg hA]
        by_cases hi : i = 0
        · have hB := hsr.mpr hi
          rw [if_pos hB, if_pos hB, if_pos hi]
          omega
        · have hB : ¬ B (wy g / 2) = r := fun q => hi (hsr.mp q)
          rw [if_neg hB, if_neg hB, if_neg hi]
          omega
