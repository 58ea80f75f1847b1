/-! Both judge alike: joins, and the whole round -/
theorem mjR_congr {L L2 : Nat → Int32} {O O2 : Nat → Int64} {la lb : Int32} {sh : Int64} : ∀ {n : Nat}, (∀ g, g < n → L2 g = L g ∧ O2 g = O g) → mjR L2 O2 la lb sh n = mjR L O la lb sh n
  | 0, _ => rfl
  | n + 1, h => by rw [mjR, mjR, mjR_congr (fun g hg => h g (by omega)), (h n (by omega)).1, (h n (by omega)).2]
theorem mjF_congr {L L2 : Nat → Int32} {O O2 : Nat → Int64} {G a b : Nat} {m : Int64} (ha : a < G) (hb : b < G) (h : ∀ g, g < G → L2 g = L g ∧ O2 g = O g) : mjF L2 O2 G a b m = mjF L O G a b m := by
  unfold mjF
  rw [(h a ha).1, (h b hb).1, (h a ha).2, (h b hb).2, mjR_congr h]
/-- where it joins: two groups, and nothing beyond -/
theorem wg_0 {l : Nat → Nat} {L : Nat → Int32} {O : Nat → Int64} (h : gIl l L O) {a b : Nat} (ha : a < 41) (hb : b < 41) {m : Int64} (hm : -1000000000000000000 ≤ m.toInt ∧ m.toInt ≤ 1000000000000000000) (h0 : wgF L O a b m = 0) : ¬ L a = L b ∧ (O b + m - O a).toInt = (O b).toInt + m.toInt - (O a).toInt ∧ ∀ g k, g < 41 → k < 41 → (L g = L a ∨ L g = L b) → (L k = L a ∨ L k = L b) → jv L O (L a) (O b + m - O a) g - jv L O (L a) (O b + m - O a) k ≤ 1000000000000000000 := by
  unfold wgF at h0
  by_cases hab : L a = L b
  · rw [if_pos hab] at h0
    by_cases hc : O a - O b = m
    · rw [if_pos hc] at h0; exact absurd h0 (by decide)
    · rw [if_neg hc] at h0; exact absurd h0 (by decide)
  · rw [if_neg hab] at h0
    have oa := gIl_O h ha
    have ob := gIl_O h hb
    have e1 : (O b + m).toInt = (O b).toInt + m.toInt := lT_add (by omega) (by omega)
    have e2 : (O b + m - O a).toInt = (O b).toInt + m.toInt - (O a).toInt := by rw [lT_sub (by omega) (by omega), e1]
    refine ⟨hab, e2, ?_⟩
    generalize O b + m - O a = sh at e2 h0
    have hsh : -3000000000000000000 ≤ sh.toInt ∧ sh.toInt ≤ 3000000000000000000 := by omega
    obtain ⟨hiB, gB, hB1, hB2, hB3⟩ := gr_hi_at h hb
    obtain ⟨hiA, gA, hA1, hA2, hA3⟩ := gr_hi_at h ha
    obtain ⟨loB, kB, lB1, lB2, lB3⟩ := gr_lo_at h hb
    obtain ⟨loA, kA, lA1, lA2, lA3⟩ := gr_lo_at h ha
    have gA' := gIl_O h hA1
    have kA' := gIl_O h lA1
    have gB' := gIl_O h hB1
    have kB' := gIl_O h lB1
    rw [hA3] at gA'; rw [lA3] at kA'; rw [hB3] at gB'; rw [lB3] at kB'
    have eA : (gr_hi L O (L a) 41 + sh).toInt = (gr_hi L O (L a) 41).toInt + sh.toInt := lT_add (by omega) (by omega)
    have eA2 : (gr_lo L O (L a) 41 + sh).toInt = (gr_lo L O (L a) 41).toInt + sh.toInt := lT_add (by omega) (by omega)
    have up : (gr_hi L O (L b) 41).toInt ≤ (mxL (gr_hi L O (L b) 41) (gr_hi L O (L a) 41 + sh)).toInt ∧ (gr_hi L O (L a) 41).toInt + sh.toInt ≤ (mxL (gr_hi L O (L b) 41) (gr_hi L O (L a) 41 + sh)).toInt ∧ (mxL (gr_hi L O (L b) 41) (gr_hi L O (L a) 41 + sh)).toInt ≤ 4000000000000000000 := by
      unfold mxL
      by_cases hc : gr_hi L O (L a) 41 + sh < gr_hi L O (L b) 41
      · rw [if_pos hc]; rw [Int64.lt_iff_toInt_lt, eA] at hc; omega
      · rw [if_neg hc]; rw [Int64.lt_iff_toInt_lt, eA] at hc; rw [eA]; omega
    have dn : (mnL (gr_lo L O (L b) 41) (gr_lo L O (L a) 41 + sh)).toInt ≤ (gr_lo L O (L b) 41).toInt ∧ (mnL (gr_lo L O (L b) 41) (gr_lo L O (L a) 41 + sh)).toInt ≤ (gr_lo L O (L a) 41).toInt + sh.toInt ∧ -4000000000000000000 ≤ (mnL (gr_lo L O (L b) 41) (gr_lo L O (L a) 41 + sh)).toInt := by
      unfold mnL
      by_cases hc : gr_lo L O (L a) 41 + sh < gr_lo L O (L b) 41
      · rw [if_pos hc]; rw [Int64.lt_iff_toInt_lt, eA2] at hc; rw [eA2]; omega
      · rw [if_neg hc]; rw [Int64.lt_iff_toInt_lt, eA2] at hc; omega
    have up2 : -1000000000000000000 ≤ (mxL (gr_hi L O (L b) 41) (gr_hi L O (L a) 41 + sh)).toInt := by omega
    have dn2 : (mnL (gr_lo L O (L b) 41) (gr_lo L O (L a) 41 + sh)).toInt ≤ 1000000000000000000 := by omega
    generalize mxL (gr_hi L O (L b) 41) (gr_hi L O (L a) 41 + sh) = hi at up up2 h0
    generalize mnL (gr_lo L O (L b) 41) (gr_lo L O (L a) 41 + sh) = lo at dn dn2 h0
    have hd : ¬ (1000000000000000000 : Int64) < hi - lo := by
      intro q
      rw [if_pos q] at h0
      exact absurd h0 (by decide)
    rw [Int64.lt_iff_toInt_lt, lT_sub (by omega) (by omega)] at hd
    have hd2 : hi.toInt - lo.toInt ≤ 1000000000000000000 := by
      have e : (1000000000000000000 : Int64).toInt = 1000000000000000000 := by decide
      rw [e] at hd
      omega
    have key : ∀ g, g < 41 → (L g = L a ∨ L g = L b) → jv L O (L a) sh g ≤ hi.toInt ∧ lo.toInt ≤ jv L O (L a) sh g := by
      intro g hg hgi
      unfold jv
      by_cases hga : L g = L a
      · rw [if_pos hga]
        have := hiA g hg hga
        have := loA g hg hga
        omega
      · rw [if_neg hga]
        have hgb := hgi.resolve_left hga
        have := hiB g hg hgb
        have := loB g hg hgb
        omega
    intro g k hg hk h1 h2
    have := key g hg h1
    have := key k hk h2
    omega
/-- least gauges behind a join -/
def jnl (l : Nat → Nat) (a b : Nat) : Nat → Nat := fun g => if l a < l b then (if l g = l b then l a else l g) else (if l g = l a then l b else l g)
theorem jn_at {L : Nat → Int32} {O : Nat → Int64} {a b : Nat} {m : Int64} {g : Nat} (hg : g < 41) : (L a < L b → jnL L a b g = (if L g = L b then L a else L g) ∧ jnO L O a b m g = if L g = L b then O g + -(O b + m - O a) else O g) ∧ (¬ L a < L b → jnL L a b g = (if L g = L a then L b else L g) ∧ jnO L O a b m g = if L g = L a then O g + (O b + m - O a) else O g) := by
  refine ⟨fun c => ?_, fun c => ?_⟩
  · unfold jnL jnO mvL mvO
    rw [if_pos c, if_pos c]
    simp only [hg, true_and]
    try exact ⟨rfl, rfl⟩
  · unfold jnL jnO mvL mvO
    rw [if_neg c, if_neg c]
    simp only [hg, true_and]
    try exact ⟨rfl, rfl⟩
theorem gIl_jn {l : Nat → Nat} {L : Nat → Int32} {O : Nat → Int64} (h : gIl l L O) {a b : Nat} (ha : a < 41) (hb : b < 41) {m : Int64} (hm : -1000000000000000000 ≤ m.toInt ∧ m.toInt ≤ 1000000000000000000) (h0 : wgF L O a b m = 0) : gIl (jnl l a b) (jnL L a b) (jnO L O a b m) := by
  obtain ⟨hab, e2, hd⟩ := wg_0 h ha hb hm h0
  have oa := gIl_O h ha
  have ob := gIl_O h hb
  obtain ⟨a1, a2, a3, a4⟩ := h.1 a ha
  obtain ⟨b1, b2, b3, b4⟩ := h.1 b hb
  have hlab : ¬ l a = l b := fun q => hab ((gIl_L h ha hb).mpr q)
  have hlt : L a < L b ↔ l a < l b := by rw [a2, b2]; exact nI_ltI (by omega) (by omega)
  have hL : ∀ {g k}, g < 41 → k < 41 → (L g = L k ↔ l g = l k) := fun hg hk => gIl_L h hg hk
  have hneg : (-(O b + m - O a)).toInt = -(O b + m - O a).toInt := by
    rw [Int64.toInt_neg]
    exact Int.bmod_eq_of_le (by omega) (by omega)
  by_cases c : L a < L b
  · have cl : l a < l b := hlt.mp c
    refine ⟨fun g hg => ?_, fun g k hg hk hgk => ?_⟩
    · obtain ⟨g1, g2, g3, g4⟩ := h.1 g hg
      have eL := ((jn_at (L := L) (O := O) (a := a) (b := b) (m := m) hg).1 c).1
      simp only [jnl, if_pos cl]
      by_cases hgb : l g = l b
      · rw [if_pos hgb]
        have z : ¬ l (l a) = l b := by rw [a3]; exact hlab
        refine ⟨by omega, by rw [eL, if_pos ((hL hg hb).mpr hgb), a2], by rw [if_neg z, a3], ?_⟩
        rw [((jn_at (L := L) (O := O) (a := a) (b := b) (m := m) (show l a < 41 by omega)).1 c).2, if_neg (fun q => z ((hL (by omega) hb).mp q)), a4]
      · rw [if_neg hgb]
        have z : ¬ l (l g) = l b := by rw [g3]; exact hgb
        refine ⟨g1, by rw [eL, if_neg (fun q => hgb ((hL hg hb).mp q)), g2], by rw [if_neg z, g3], ?_⟩
        rw [((jn_at (L := L) (O := O) (a := a) (b := b) (m := m) (show l g < 41 by omega)).1 c).2, if_neg (fun q => z ((hL (by omega) hb).mp q)), g4]
    · rw [((jn_at (L := L) (O := O) (a := a) (b := b) (m := m) hg).1 c).2, ((jn_at (L := L) (O := O) (a := a) (b := b) (m := m) hk).1 c).2]
      simp only [jnl, if_pos cl] at hgk
      have og := gIl_O h hg
      have ok := gIl_O h hk
      have sg : (O g + -(O b + m - O a)).toInt = (O g).toInt - (O b + m - O a).toInt := by rw [lT_add (by omega) (by omega)]; omega
      have sk : (O k + -(O b + m - O a)).toInt = (O k).toInt - (O b + m - O a).toInt := by rw [lT_add (by omega) (by omega)]; omega
      have dif := hd g k hg hk
      unfold jv at dif
      by_cases h1 : l g = l b
      · have h1' := (hL hg hb).mpr h1
        by_cases h2 : l k = l b
        · have h2' := (hL hk hb).mpr h2
          rw [if_pos h1', if_pos h2', sg, sk]
          have := h.2 g k hg hk (h1.trans h2.symm)
          omega
        · have h2' : ¬ L k = L b := fun q => h2 ((hL hk hb).mp q)
          rw [if_pos h1', if_neg h2', sg]
          rw [if_pos h1, if_neg h2] at hgk
          have ka : L k = L a := (hL hk ha).mpr hgk.symm
          have := dif (Or.inr h1') (Or.inl ka)
          rw [if_neg (fun q => hab (q.symm.trans h1')), if_pos ka] at this
          omega
      · have h1' : ¬ L g = L b := fun q => h1 ((hL hg hb).mp q)
        by_cases h2 : l k = l b
        · have h2' := (hL hk hb).mpr h2
          rw [if_neg h1', if_pos h2', sk]
          rw [if_neg h1, if_pos h2] at hgk
          have ga : L g = L a := (hL hg ha).mpr hgk
          have := dif (Or.inl ga) (Or.inr h2')
          rw [if_pos ga, if_neg (fun q => hab (q.symm.trans h2'))] at this
          omega
        · have h2' : ¬ L k = L b := fun q => h2 ((hL hk hb).mp q)
          rw [if_neg h1', if_neg h2']
          rw [if_neg h1, if_neg h2] at hgk
          exact h.2 g k hg hk hgk
  · have cl : ¬ l a < l b := fun q => c (hlt.mpr q)
    refine ⟨fun g hg => ?_, fun g k hg hk hgk => ?_⟩
    · obtain ⟨g1, g2, g3, g4⟩ := h.1 g hg
      have eL := ((jn_at (L := L) (O := O) (a := a) (b := b) (m := m) hg).2 c).1
      simp only [jnl, if_neg cl]
      by_cases hgb : l g = l a
      · rw [if_pos hgb]
        have z : ¬ l (l b) = l a := by rw [b3]; exact fun q => hlab q.symm
        refine ⟨by omega, by rw [eL, if_pos ((hL hg ha).mpr hgb), b2], by rw [if_neg z, b3], ?_⟩
        rw [((jn_at (L := L) (O := O) (a := a) (b := b) (m := m) (show l b < 41 by omega)).2 c).2, if_neg (fun q => z ((hL (by omega) ha).mp q)), b4]
      · rw [if_neg hgb]
        have z : ¬ l (l g) = l a := by rw [g3]; exact hgb
        refine ⟨g1, by rw [eL, if_neg (fun q => hgb ((hL hg ha).mp q)), g2], by rw [if_neg z, g3], ?_⟩
        rw [((jn_at (L := L) (O := O) (a := a) (b := b) (m := m) (show l g < 41 by omega)).2 c).2, if_neg (fun q => z ((hL (by omega) ha).mp q)), g4]
    · rw [((jn_at (L := L) (O := O) (a := a) (b := b) (m := m) hg).2 c).2, ((jn_at (L := L) (O := O) (a := a) (b := b) (m := m) hk).2 c).2]
      simp only [jnl, if_neg cl] at hgk
      have og := gIl_O h hg
      have ok := gIl_O h hk
      have sg : (O g + (O b + m - O a)).toInt = (O g).toInt + (O b + m - O a).toInt := lT_add (by omega) (by omega)
      have sk : (O k + (O b + m - O a)).toInt = (O k).toInt + (O b + m - O a).toInt := lT_add (by omega) (by omega)
      have dif := hd g k hg hk
      unfold jv at dif
      by_cases h1 : l g = l a
      · have h1' := (hL hg ha).mpr h1
        by_cases h2 : l k = l a
        · have h2' := (hL hk ha).mpr h2
          rw [if_pos h1', if_pos h2', sg, sk]
          have := h.2 g k hg hk (h1.trans h2.symm)
          omega
        · have h2' : ¬ L k = L a := fun q => h2 ((hL hk ha).mp q)
          rw [if_pos h1', if_neg h2', sg]
          rw [if_pos h1, if_neg h2] at hgk
          have kb : L k = L b := (hL hk hb).mpr hgk.symm
          have := dif (Or.inl h1') (Or.inr kb)
          rw [if_pos h1', if_neg h2'] at this
          omega
      · have h1' : ¬ L g = L a := fun q => h1 ((hL hg ha).mp q)
        by_cases h2 : l k = l a
        · have h2' := (hL hk ha).mpr h2
          rw [if_neg h1', if_pos h2', sk]
          rw [if_neg h1, if_pos h2] at hgk
          have gb : L g = L b := (hL hg hb).mpr hgk
          have := dif (Or.inr gb) (Or.inl h2')
          rw [if_neg h1', if_pos h2'] at this
          omega
        · have h2' : ¬ L k = L a := fun q => h2 ((hL hk ha).mp q)
          rw [if_neg h1', if_neg h2']
          rw [if_neg h1, if_neg h2] at hgk
          exact h.2 g k hg hk hgk
/-- class and reference are alike, as far as statements below s have been judged -/
def jgE (G s : Nat) (t u : jgT) : Prop := ∃ l, gIl l t.1 t.2.1 ∧ (∀ g, G ≤ g → g < 41 → l g = g) ∧ (∀ g, g < G → l g < G) ∧ (∀ g, g < G → u.1 g = t.1 g ∧ u.2.1 g = t.2.1 g) ∧ ∀ k, k < s → u.2.2 k = t.2.2 k
theorem wg_val (L : Nat → Int32) (O : Nat → Int64) (a b : Nat) (m : Int64) : wgF L O a b m = 0 ∨ wgF L O a b m = 1 ∨ wgF L O a b m = 2 ∨ wgF L O a b m = 3 := by
  unfold wgF
  by_cases h1 : L a = L b
  · rw [if_pos h1]
    by_cases h2 : O a - O b = m
    · rw [if_pos h2]; simp
    · rw [if_neg h2]; simp
  · rw [if_neg h1]
    generalize mxL _ _ - mnL _ _ = d
    by_cases h2 : 1000000000000000000 < d
    · rw [if_pos h2]; simp
    · rw [if_neg h2]; simp
theorem jgE_s {G s : Nat} (hG : G ≤ 41) {A B : Nat → Nat} {m m2 : Nat → Int64} {out out2 : Nat → Int32} (hA : A s < G) (hB : B s < G) (em : m2 s = m s) (eo : out2 s = out s) (hm : -1000000000000000000 ≤ (m s).toInt ∧ (m s).toInt ≤ 1000000000000000000) {t u : jgT} (h : jgE G s t u) : jgE G (s + 1) (jgS A B m out s t) (mgS G A B m2 out2 s u) := by
  obtain ⟨l, h1, h2, h3, h4, h5⟩ := h
  obtain ⟨L, O, V⟩ := t
  obtain ⟨L2, O2, V2⟩ := u
  simp only at h1 h4 h5
  have vs : ∀ (x : Int32) (k : Nat), k < s + 1 → upd V2 s x k = upd V s x k := by
    intro x k hk
    simp only [upd]
    by_cases hks : k = s
    · rw [if_pos hks, if_pos hks]
    · rw [if_neg hks, if_neg hks]; exact h5 k (by omega)
  unfold jgS mgS
  rw [eo, em]
  by_cases ho : out s = 0
  · rw [if_pos ho, if_pos ho]
    simp only
    have e : mjF L2 O2 G (A s) (B s) (m s) = wgF L O (A s) (B s) (m s) := by rw [mjF_congr hA hB h4, ← wg_mj h1 hG hA hB h2 hm]
    rw [e]
    by_cases hw : wgF L O (A s) (B s) (m s) = 0
    · rw [if_pos hw, if_pos hw]
      obtain ⟨hab, -, -⟩ := wg_0 h1 (show A s < 41 by omega) (show B s < 41 by omega) hm hw
      obtain ⟨a1, a2, a3, a4⟩ := h1.1 (A s) (by omega)
      obtain ⟨b1, b2, b3, b4⟩ := h1.1 (B s) (by omega)
      have hlA := h3 _ hA
      have hlB := h3 _ hB
      refine ⟨jnl l (A s) (B s), gIl_jn h1 (by omega) (by omega) hm hw, fun g g1 g2 => ?_, fun g hg => ?_, fun g hg => ?_, vs 0⟩
      · have e1 := h2 g g1 g2
        unfold jnl
        rw [e1]
        by_cases c : l (A s) < l (B s)
        · rw [if_pos c, if_neg (by omega)]
        · rw [if_neg c, if_neg (by omega)]
      · unfold jnl
        have := h3 g hg
        by_cases c : l (A s) < l (B s)
        · rw [if_pos c]; split <;> omega
        · rw [if_neg c]; split <;> omega
      · have hg41 : g < 41 := by omega
        have ja := jn_at (L := L) (O := O) (a := A s) (b := B s) (m := m s) hg41
        have ela : (L2 (A s)).toNatClampNeg = l (A s) := by rw [(h4 _ hA).1, a2]; exact nI_clamp (by omega)
        show mqL L2 G (A s) (B s) g = jnL L (A s) (B s) g ∧ mqO L2 O2 G (A s) (B s) (L2 (A s)).toNatClampNeg (m s) g = jnO L O (A s) (B s) (m s) g
        rw [ela]
        unfold mqL mqO mgL mgO mqD mqX
        rw [(h4 _ hA).1, (h4 _ hB).1, (h4 _ hA).2, (h4 _ hB).2, (h4 g hg).1, (h4 g hg).2, (h4 _ hlA).2, a4]
        simp only [hg, true_and, if_true]
        by_cases c : L (A s) < L (B s)
        · obtain ⟨j1, j2⟩ := ja.1 c
          rw [j1, j2, if_pos c, if_neg hab, Int64.zero_add]
          by_cases q1 : L g = L (A s)
          · rw [if_pos (Or.inl q1), if_pos q1, if_neg (fun q => hab (q1.symm.trans q)), if_neg (fun q => hab (q1.symm.trans q)), Int64.add_sub_cancel]
            exact ⟨q1.symm, rfl⟩
          · by_cases q2 : L g = L (B s)
            · rw [if_pos (Or.inr q2), if_neg q1, if_pos q2, if_pos q2, if_pos q2]
              exact ⟨rfl, Int64.sub_eq_add_neg _ _⟩
            · rw [if_neg (fun q => q.elim q1 q2), if_neg q1, if_neg q2, if_neg q2, if_neg q2]
              exact ⟨rfl, rfl⟩
        · obtain ⟨j1, j2⟩ := ja.2 c
          rw [j1, j2, if_neg c, if_pos rfl]
          by_cases q1 : L g = L (A s)
          · rw [if_pos (Or.inl q1), if_pos q1, if_pos q1, if_pos q1, Int64.sub_zero]
            exact ⟨rfl, rfl⟩
          · by_cases q2 : L g = L (B s)
            · rw [if_pos (Or.inr q2), if_neg q1, if_pos q2, if_neg q1, if_neg q1, Int64.sub_zero]
              exact ⟨q2.symm, rfl⟩
            · rw [if_neg (fun q => q.elim q1 q2), if_neg q1, if_neg q2, if_neg q1, if_neg q1]
              exact ⟨rfl, rfl⟩
    · rw [if_neg hw, if_neg hw]
      exact ⟨l, h1, h2, h3, h4, vs _⟩
  · rw [if_neg ho, if_neg ho]
    exact ⟨l, h1, h2, h3, h4, vs 4⟩
theorem jgE_n {G n : Nat} (hG : G ≤ 41) {A B : Nat → Nat} {m m2 : Nat → Int64} {out out2 : Nat → Int32} (hA : ∀ s, s < n → A s < G) (hB : ∀ s, s < n → B s < G) (em : ∀ s, s < n → m2 s = m s) (eo : ∀ s, s < n → out2 s = out s) (hm : ∀ s, s < n → -1000000000000000000 ≤ (m s).toInt ∧ (m s).toInt ≤ 1000000000000000000) {t u : jgT} (h : jgE G 0 t u) : ∀ s, s ≤ n → jgE G s (jgR A B m out t s) (mgR G A B m2 out2 u s)
  | 0, _ => h
  | s + 1, hs => jgE_s hG (hA s (by omega)) (hB s (by omega)) (em s (by omega)) (eo s (by omega)) (hm s (by omega)) (jgE_n hG hA hB em eo hm h s (by omega))
theorem jgE_0 (G : Nat) (hG : G ≤ 41) (L L2 : Nat → Int32) (O O2 : Nat → Int64) (V V2 : Nat → Int32) : jgE G 0 (jgL L 41, jgO O 41, V) (jgL L2 G, jgO O2 G, V2) := by
  refine ⟨fun g => g, ⟨fun g hg => ⟨Nat.le_refl g, if_pos hg, rfl, if_pos hg⟩, fun g k hg hk _ => ?_⟩, fun g _ _ => rfl, fun g hg => hg, fun g hg => ⟨?_, ?_⟩, fun k hk => absurd hk (Nat.not_lt_zero k)⟩
  · show (jgO O 41 g).toInt - (jgO O 41 k).toInt ≤ _
    rw [show jgO O 41 g = 0 from if_pos hg, show jgO O 41 k = 0 from if_pos hk]
    decide
  · show jgL L2 G g = jgL L 41 g
    rw [show jgL L2 G g = nI g from if_pos hg, show jgL L 41 g = nI g from if_pos (by omega)]
  · show jgO O2 G g = jgO O 41 g
    rw [show jgO O2 G g = 0 from if_pos hg, show jgO O 41 g = 0 from if_pos (by omega)]
