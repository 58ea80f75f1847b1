/-! Both judge alike -/
theorem lT_add {x y : Int64} (h1 : -9223372036854775808 ≤ x.toInt + y.toInt) (h2 : x.toInt + y.toInt < 9223372036854775808) : (x + y).toInt = x.toInt + y.toInt := by
  rw [Int64.toInt_add]
  exact Int.bmod_eq_of_le (by omega) (by omega)
theorem lT_sub {x y : Int64} (h1 : -9223372036854775808 ≤ x.toInt - y.toInt) (h2 : x.toInt - y.toInt < 9223372036854775808) : (x - y).toInt = x.toInt - y.toInt := by
  rw [Int64.toInt_sub]
  exact Int.bmod_eq_of_le (by omega) (by omega)
/-- groups as they always are: l the least gauge of each -/
def gIl (l : Nat → Nat) (L : Nat → Int32) (O : Nat → Int64) : Prop := (∀ g, g < 41 → l g ≤ g ∧ L g = nI (l g) ∧ l (l g) = l g ∧ O (l g) = 0) ∧ ∀ g k, g < 41 → k < 41 → l g = l k → (O g).toInt - (O k).toInt ≤ 1000000000000000000
theorem gIl_O {l : Nat → Nat} {L : Nat → Int32} {O : Nat → Int64} (h : gIl l L O) {g : Nat} (hg : g < 41) : -1000000000000000000 ≤ (O g).toInt ∧ (O g).toInt ≤ 1000000000000000000 := by
  obtain ⟨h1, -, h3, h4⟩ := h.1 g hg
  have a1 := h.2 g (l g) hg (by omega) h3.symm
  have a2 := h.2 (l g) g (by omega) hg h3
  rw [h4, Int64.toInt_zero] at a1 a2
  omega
theorem gIl_L {l : Nat → Nat} {L : Nat → Int32} {O : Nat → Int64} (h : gIl l L O) {g k : Nat} (hg : g < 41) (hk : k < 41) : L g = L k ↔ l g = l k := by
  obtain ⟨h1, h2, -⟩ := h.1 g hg
  obtain ⟨k1, k2, -⟩ := h.1 k hk
  rw [h2, k2]
  exact nI_eq (by omega) (by omega)
theorem gr_hi_p (L : Nat → Int32) (O : Nat → Int64) (x : Int32) : ∀ n, 0 ≤ (gr_hi L O x n).toInt ∧ (∀ g, g < n → L g = x → (O g).toInt ≤ (gr_hi L O x n).toInt) ∧ (gr_hi L O x n = 0 ∨ ∃ g, g < n ∧ L g = x ∧ O g = gr_hi L O x n)
  | 0 => ⟨Int.le_refl 0, fun g hg => by omega, Or.inl rfl⟩
  | n + 1 => by
    obtain ⟨i1, i2, i3⟩ := gr_hi_p L O x n
    rw [gr_hi]
    by_cases h1 : L n = x
    · rw [if_pos h1]
      by_cases h2 : O n < gr_hi L O x n
      · rw [if_pos h2]
        rw [Int64.lt_iff_toInt_lt] at h2
        refine ⟨i1, fun g hg hx => ?_, i3.imp_right (fun ⟨g, a, b⟩ => ⟨g, by omega, b⟩)⟩
        by_cases hgn : g = n
        · subst hgn; omega
        · exact i2 g (by omega) hx
      · rw [if_neg h2]
        rw [Int64.lt_iff_toInt_lt] at h2
        refine ⟨by omega, fun g hg hx => ?_, Or.inr ⟨n, by omega, h1, rfl⟩⟩
        by_cases hgn : g = n
        · subst hgn; omega
        · have := i2 g (by omega) hx; omega
    · rw [if_neg h1]
      refine ⟨i1, fun g hg hx => ?_, i3.imp_right (fun ⟨g, a, b⟩ => ⟨g, by omega, b⟩)⟩
      by_cases hgn : g = n
      · subst hgn; exact absurd hx h1
      · exact i2 g (by omega) hx
theorem gr_lo_p (L : Nat → Int32) (O : Nat → Int64) (x : Int32) : ∀ n, (gr_lo L O x n).toInt ≤ 0 ∧ (∀ g, g < n → L g = x → (gr_lo L O x n).toInt ≤ (O g).toInt) ∧ (gr_lo L O x n = 0 ∨ ∃ g, g < n ∧ L g = x ∧ O g = gr_lo L O x n)
  | 0 => ⟨Int.le_refl 0, fun g hg => by omega, Or.inl rfl⟩
  | n + 1 => by
    obtain ⟨i1, i2, i3⟩ := gr_lo_p L O x n
    rw [gr_lo]
    by_cases h1 : L n = x
    · rw [if_pos h1]
      by_cases h2 : O n < gr_lo L O x n
      · rw [if_pos h2]
        rw [Int64.lt_iff_toInt_lt] at h2
        refine ⟨by omega, fun g hg hx => ?_, Or.inr ⟨n, by omega, h1, rfl⟩⟩
        by_cases hgn : g = n
        · subst hgn; omega
        · have := i2 g (by omega) hx; omega
      · rw [if_neg h2]
        rw [Int64.lt_iff_toInt_lt] at h2
        refine ⟨i1, fun g hg hx => ?_, i3.imp_right (fun ⟨g, a, b⟩ => ⟨g, by omega, b⟩)⟩
        by_cases hgn : g = n
        · subst hgn; omega
        · exact i2 g (by omega) hx
    · rw [if_neg h1]
      refine ⟨i1, fun g hg hx => ?_, i3.imp_right (fun ⟨g, a, b⟩ => ⟨g, by omega, b⟩)⟩
      by_cases hgn : g = n
      · subst hgn; exact absurd hx h1
      · exact i2 g (by omega) hx
/-- highest, lowest of a gauge's group, attained -/
theorem gr_hi_at {l : Nat → Nat} {L : Nat → Int32} {O : Nat → Int64} (h : gIl l L O) {a : Nat} (ha : a < 41) : (∀ g, g < 41 → L g = L a → (O g).toInt ≤ (gr_hi L O (L a) 41).toInt) ∧ ∃ g, g < 41 ∧ L g = L a ∧ O g = gr_hi L O (L a) 41 := by
  obtain ⟨-, i2, i3⟩ := gr_hi_p L O (L a) 41
  refine ⟨i2, i3.elim (fun e => ?_) id⟩
  obtain ⟨h1, h2, h3, h4⟩ := h.1 a ha
  exact ⟨l a, by omega, (gIl_L h (by omega) ha).mpr h3, by rw [h4, e]⟩
theorem gr_lo_at {l : Nat → Nat} {L : Nat → Int32} {O : Nat → Int64} (h : gIl l L O) {a : Nat} (ha : a < 41) : (∀ g, g < 41 → L g = L a → (gr_lo L O (L a) 41).toInt ≤ (O g).toInt) ∧ ∃ g, g < 41 ∧ L g = L a ∧ O g = gr_lo L O (L a) 41 := by
  obtain ⟨-, i2, i3⟩ := gr_lo_p L O (L a) 41
  refine ⟨i2, i3.elim (fun e => ?_) id⟩
  obtain ⟨h1, h2, h3, h4⟩ := h.1 a ha
  exact ⟨l a, by omega, (gIl_L h (by omega) ha).mpr h3, by rw [h4, e]⟩
/-- a gauge's value, once the groups of la and lb are one -/
def jv (L : Nat → Int32) (O : Nat → Int64) (la : Int32) (sh : Int64) (g : Nat) : Int := if L g = la then (O g).toInt + sh.toInt else (O g).toInt
theorem mjR_p {L : Nat → Int32} {O : Nat → Int64} {la lb : Int32} {sh : Int64} {G : Nat} (hv : ∀ g, g < G → L g = la → (O g + sh).toInt = (O g).toInt + sh.toInt) : ∀ n, n ≤ G → ∀ lo hi f, mjR L O la lb sh n = (lo, hi, f) → (f = true ∧ ∀ g, g < n → ¬ (L g = la ∨ L g = lb)) ∨ (f = false ∧ (∀ g, g < n → (L g = la ∨ L g = lb) → lo.toInt ≤ jv L O la sh g ∧ jv L O la sh g ≤ hi.toInt) ∧ (∃ g, g < n ∧ (L g = la ∨ L g = lb) ∧ jv L O la sh g = lo.toInt) ∧ ∃ g, g < n ∧ (L g = la ∨ L g = lb) ∧ jv L O la sh g = hi.toInt)
  | 0, _, lo, hi, f, h => by
    rw [mjR] at h
    cases h
    exact Or.inl ⟨rfl, fun g hg => by omega⟩
  | n + 1, hn, lo2, hi2, f2, h => by
    rw [mjR] at h
    obtain ⟨⟨lo, hi, f⟩, hm⟩ : ∃ q, mjR L O la lb sh n = q := ⟨_, rfl⟩
    rw [hm] at h
    simp only at h
    have ih := mjR_p hv n (by omega) lo hi f hm
    have put : ∀ x : Int64, (L n = la ∨ L n = lb) → x.toInt = jv L O la sh n → ((if f = true ∨ x < lo then x else lo, if f = true ∨ hi < x then x else hi, false) : Int64 × Int64 × Bool) = (lo2, hi2, f2) → f2 = false ∧ (∀ g, g < n + 1 → (L g = la ∨ L g = lb) → lo2.toInt ≤ jv L O la sh g ∧ jv L O la sh g ≤ hi2.toInt) ∧ (∃ g, g < n + 1 ∧ (L g = la ∨ L g = lb) ∧ jv L O la sh g = lo2.toInt) ∧ ∃ g, g < n + 1 ∧ (L g = la ∨ L g = lb) ∧ jv L O la sh g = hi2.toInt := by
      intro x hin hx hp
      simp only [Prod.mk.injEq] at hp
      obtain ⟨p1, p2, p3⟩ := hp
      refine ⟨p3.symm, ?_⟩
      rcases ih with ⟨if1, i2⟩ | ⟨if1, i2, ⟨g1, j1, j2, j3⟩, ⟨g2, k1, k2, k3⟩⟩
      · rw [if_pos (Or.inl if1)] at p1 p2
        subst p1; subst p2
        refine ⟨fun g hg hgi => ?_, ⟨n, by omega, hin, hx.symm⟩, ⟨n, by omega, hin, hx.symm⟩⟩
        by_cases hgn : g = n
        · subst hgn; omega
        · exact absurd hgi (i2 g (by omega))
      · have hlo : lo2.toInt ≤ lo.toInt ∧ lo2.toInt ≤ x.toInt ∧ (lo2 = lo ∨ lo2 = x) := by
          by_cases hc : x < lo
          · rw [if_pos (Or.inr hc)] at p1; subst p1
            rw [Int64.lt_iff_toInt_lt] at hc
            exact ⟨by omega, by omega, Or.inr rfl⟩
          · rw [if_neg (fun q => q.elim (fun z => by rw [if1] at z; cases z) hc)] at p1; subst p1
            rw [Int64.lt_iff_toInt_lt] at hc
            exact ⟨by omega, by omega, Or.inl rfl⟩
        have hhi : hi.toInt ≤ hi2.toInt ∧ x.toInt ≤ hi2.toInt ∧ (hi2 = hi ∨ hi2 = x) := by
          by_cases hc : hi < x
          · rw [if_pos (Or.inr hc)] at p2; subst p2
            rw [Int64.lt_iff_toInt_lt] at hc
            exact ⟨by omega, by omega, Or.inr rfl⟩
          · rw [if_neg (fun q => q.elim (fun z => by rw [if1] at z; cases z) hc)] at p2; subst p2
            rw [Int64.lt_iff_toInt_lt] at hc
            exact ⟨by omega, by omega, Or.inl rfl⟩
        refine ⟨fun g hg hgi => ?_, ?_, ?_⟩
        · by_cases hgn : g = n
          · subst hgn; omega
          · have := i2 g (by omega) hgi; omega
        · rcases hlo.2.2 with e | e
          · exact ⟨g1, by omega, j2, by rw [j3, e]⟩
          · exact ⟨n, by omega, hin, by rw [e, hx]⟩
        · rcases hhi.2.2 with e | e
          · exact ⟨g2, by omega, k2, by rw [k3, e]⟩
          · exact ⟨n, by omega, hin, by rw [e, hx]⟩
    by_cases h1 : L n = la
    · rw [if_pos h1] at h
      exact Or.inr (put (O n + sh) (Or.inl h1) (by unfold jv; rw [if_pos h1]; exact hv n (by omega) h1) h)
    · rw [if_neg h1] at h
      by_cases h2 : L n = lb
      · rw [if_pos h2] at h
        exact Or.inr (put (O n) (Or.inr h2) (by unfold jv; rw [if_neg h1]) h)
      · rw [if_neg h2] at h
        cases h
        rcases ih with ⟨if1, i2⟩ | ⟨if1, i2, ⟨g1, j1, j2, j3⟩, ⟨g2, k1, k2, k3⟩⟩
        · refine Or.inl ⟨if1, fun g hg => ?_⟩
          by_cases hgn : g = n
          · subst hgn; exact fun q => q.elim h1 h2
          · exact i2 g (by omega)
        · refine Or.inr ⟨if1, fun g hg hgi => ?_, ⟨g1, by omega, j2, j3⟩, ⟨g2, by omega, k2, k3⟩⟩
          by_cases hgn : g = n
          · subst hgn; exact absurd hgi (fun q => q.elim h1 h2)
          · exact i2 g (by omega) hgi
/-- what is weighed is the same -/
theorem wg_mj {l : Nat → Nat} {L : Nat → Int32} {O : Nat → Int64} (h : gIl l L O) {G a b : Nat} (hG : G ≤ 41) (ha : a < G) (hb : b < G) (hx : ∀ g, G ≤ g → g < 41 → l g = g) {m : Int64} (hm : -1000000000000000000 ≤ m.toInt ∧ m.toInt ≤ 1000000000000000000) : wgF L O a b m = mjF L O G a b m := by
  unfold wgF mjF
  by_cases hab : L a = L b
  · rw [if_pos hab, if_pos hab]
  · rw [if_neg hab, if_neg hab]
    have oa := gIl_O h (show a < 41 by omega)
    have ob := gIl_O h (show b < 41 by omega)
    have e1 : (O b + m).toInt = (O b).toInt + m.toInt := lT_add (by omega) (by omega)
    have e2 : (O b + m - O a).toInt = (O b).toInt + m.toInt - (O a).toInt := by rw [lT_sub (by omega) (by omega), e1]
    generalize O b + m - O a = sh at e2
    have hsh : -3000000000000000000 ≤ sh.toInt ∧ sh.toInt ≤ 3000000000000000000 := by omega
    have hv : ∀ g, g < G → L g = L a → (O g + sh).toInt = (O g).toInt + sh.toInt := fun g hg _ => by
      have := gIl_O h (show g < 41 by omega)
      exact lT_add (by omega) (by omega)
    have inG : ∀ {g k : Nat}, g < 41 → k < G → L g = L k → g < G := fun {g k} hg hk hL => by
      have e := (gIl_L h hg (show k < 41 by omega)).mp hL
      have q := (h.1 k (by omega)).1
      rcases Nat.lt_or_ge g G with z | z
      · exact z
      · have := hx g z hg; omega
    obtain ⟨hiB, gB, hB1, hB2, hB3⟩ := gr_hi_at h (show b < 41 by omega)
    obtain ⟨hiA, gA, hA1, hA2, hA3⟩ := gr_hi_at h (show a < 41 by omega)
    obtain ⟨loB, kB, lB1, lB2, lB3⟩ := gr_lo_at h (show b < 41 by omega)
    obtain ⟨loA, kA, lA1, lA2, lA3⟩ := gr_lo_at h (show a < 41 by omega)
    obtain ⟨⟨lo, hi, f⟩, hmj⟩ : ∃ q, mjR L O (L a) (L b) sh G = q := ⟨_, rfl⟩
    rw [hmj]
    rcases mjR_p hv G (Nat.le_refl G) lo hi f hmj with ⟨-, i2⟩ | ⟨-, i2, ⟨g1, j1, j2, j3⟩, ⟨g2, k1, k2, k3⟩⟩
    · exact absurd (Or.inl rfl) (i2 a ha)
    · have gA' := gIl_O h hA1
      have kA' := gIl_O h lA1
      have eA : (gr_hi L O (L a) 41 + sh).toInt = (gr_hi L O (L a) 41).toInt + sh.toInt := by rw [← hA3]; exact lT_add (by omega) (by omega)
      have eA2 : (gr_lo L O (L a) 41 + sh).toInt = (gr_lo L O (L a) 41).toInt + sh.toInt := by rw [← lA3]; exact lT_add (by omega) (by omega)
      have hne : ∀ {g : Nat}, L g = L b → ¬ L g = L a := fun q z => hab (z.symm.trans q)
      have jA : ∀ {g : Nat}, L g = L a → jv L O (L a) sh g = (O g).toInt + sh.toInt := fun q => if_pos q
      have jB : ∀ {g : Nat}, L g = L b → jv L O (L a) sh g = (O g).toInt := fun q => if_neg (hne q)
      have eh : mxL (gr_hi L O (L b) 41) (gr_hi L O (L a) 41 + sh) = hi := by
        have u1 := i2 gA (inG hA1 ha hA2) (Or.inl hA2)
        have u2 := i2 gB (inG hB1 hb hB2) (Or.inr hB2)
        rw [jA hA2, hA3] at u1
        rw [jB hB2, hB3] at u2
        have u3 : hi.toInt ≤ (gr_hi L O (L b) 41).toInt ∨ hi.toInt ≤ (gr_hi L O (L a) 41).toInt + sh.toInt := by
          rcases k2 with q | q
          · rw [jA q] at k3
            have := hiA g2 (by omega) q
            exact Or.inr (by omega)
          · rw [jB q] at k3
            have := hiB g2 (by omega) q
            exact Or.inl (by omega)
        apply Int64.toInt_inj.mp
        unfold mxL
        by_cases hc : gr_hi L O (L a) 41 + sh < gr_hi L O (L b) 41
        · rw [if_pos hc]; rw [Int64.lt_iff_toInt_lt, eA] at hc; omega
        · rw [if_neg hc]; rw [Int64.lt_iff_toInt_lt, eA] at hc; rw [eA]; omega
      have el : mnL (gr_lo L O (L b) 41) (gr_lo L O (L a) 41 + sh) = lo := by
        have u1 := i2 kA (inG lA1 ha lA2) (Or.inl lA2)
        have u2 := i2 kB (inG lB1 hb lB2) (Or.inr lB2)
        rw [jA lA2, lA3] at u1
        rw [jB lB2, lB3] at u2
        have u3 : (gr_lo L O (L b) 41).toInt ≤ lo.toInt ∨ (gr_lo L O (L a) 41).toInt + sh.toInt ≤ lo.toInt := by
          rcases j2 with q | q
          · rw [jA q] at j3
            have := loA g1 (by omega) q
            exact Or.inr (by omega)
          · rw [jB q] at j3
            have := loB g1 (by omega) q
            exact Or.inl (by omega)
        apply Int64.toInt_inj.mp
        unfold mnL
        by_cases hc : gr_lo L O (L a) 41 + sh < gr_lo L O (L b) 41
        · rw [if_pos hc]; rw [Int64.lt_iff_toInt_lt, eA2] at hc; rw [eA2]; omega
        · rw [if_neg hc]; rw [Int64.lt_iff_toInt_lt, eA2] at hc; omega
      rw [eh, el]
