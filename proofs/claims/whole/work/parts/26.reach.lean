/-! Web.reachFrom -/
theorem nI_nm1 {k : Nat} (h : k < 2 ^ 31) : ¬ nI k = -1 := fun q => absurd (show nI k < 0 by rw [q]; decide) (nI_pos h)
theorem bsOk_len {m : Nat} {S : bsT} (h : bsOk m S) : S.1.length ≤ m := nodup_len h.1 (fun g hg => (h.2.1 g hg).1)
theorem bsOk_in {m : Nat} {S : bsT} (h : bsOk m S) (hm : m ≤ 41) {g : Nat} (hg : g < 41) : S.2.1 g = -1 ↔ ¬ g ∈ S.1 := by
  constructor
  · intro e hi
    obtain ⟨-, k, hk, ek⟩ := h.2.1 g hi
    have := bsOk_len h
    exact nI_nm1 (by omega) (ek.symm.trans e)
  · exact h.2.2 g hg
theorem bsOk_put {m : Nat} {S : bsT} (h : bsOk m S) {a t : Nat} {w : Int32} (ha : a ∈ S.1) (ht : ¬ t ∈ S.1) (hm : t < m) : bsOk m (S.1 ++ [t], upd S.2.1 t (S.2.1 a + 1), upd S.2.2 t w) := by
  refine ⟨?_, fun g hg => ?_, fun g hg hn => ?_⟩
  · rw [List.nodup_append]
    refine ⟨h.1, by simp, fun x hx y hy => ?_⟩
    rw [List.mem_singleton] at hy
    subst hy
    exact fun q => ht (q ▸ hx)
  · simp only [List.length_append, List.length_cons, List.length_nil]
    rcases List.mem_append.mp hg with q | q
    · obtain ⟨g1, k, k1, k2⟩ := h.2.1 g q
      refine ⟨g1, k, by omega, ?_⟩
      show upd S.2.1 t (S.2.1 a + 1) g = nI k
      rw [← k2]
      exact if_neg (show ¬ g = t from fun z => ht (z ▸ q))
    · rw [List.mem_singleton] at q
      subst q
      obtain ⟨-, k, k1, k2⟩ := h.2.1 a ha
      refine ⟨hm, k + 1, by omega, ?_⟩
      show upd S.2.1 g (S.2.1 a + 1) g = nI (k + 1)
      rw [k2, nI_1]
      exact if_pos rfl
  · have h1 : ¬ g ∈ S.1 := fun q => hn (List.mem_append_left _ q)
    have h2 : ¬ g = t := fun q => hn (List.mem_append_right _ (by rw [q]; exact List.mem_singleton.mpr rfl))
    show upd S.2.1 t (S.2.1 a + 1) g = -1
    rw [show upd S.2.1 t (S.2.1 a + 1) g = S.2.1 g from if_neg h2]
    exact h.2.2 g hg h1
/-- the web lies as weave leaves it -/
def wbOk (h : ia_H) (st : Nat → Bool) (sr dt : Nat → Nat) (m : Nat) : Prop := (∀ w, w < 240 → st w = true → h.1 30 w = nI (dt w) ∧ dt w < m ∧ sr w < m) ∧ (∀ j, j < 42 → h.1 32 j = nI (wsm st sr j)) ∧ wyOk st sr (h.1 31) 240
theorem bsW_ok {st : Nat → Bool} {sr dt : Nat → Nat} {rm : Nat → Bool} {m a : Nat} {S : bsT} (hd : ∀ w, w < 240 → st w = true → dt w < m) (h : bsOk m S) (ha : a ∈ S.1) : ∀ w, w ≤ 240 → bsOk m (bsW st sr dt rm a S w) ∧ a ∈ (bsW st sr dt rm a S w).1
  | 0, _ => ⟨h, ha⟩
  | w + 1, hw => by
    obtain ⟨i1, i2⟩ := bsW_ok (rm := rm) hd h ha w (by omega)
    rw [bsW]
    by_cases hc : st w = true ∧ sr w = a
    · rw [if_pos hc]
      unfold bsS
      by_cases hq : dt w ∈ (bsW st sr dt rm a S w).1 ∨ rm w = false
      · rw [if_pos hq]; exact ⟨i1, i2⟩
      · rw [if_neg hq]
        exact ⟨bsOk_put i1 i2 (fun z => hq (Or.inl z)) (hd w (by omega) hc.1), List.mem_append_left _ i2⟩
    · rw [if_neg hc]; exact ⟨i1, i2⟩
theorem bsW_skip {st : Nat → Bool} {sr dt : Nat → Nat} {rm : Nat → Bool} {a w : Nat} {S : bsT} : ∀ {v : Nat}, w ≤ v → (∀ u, w ≤ u → u < v → ¬ (st u = true ∧ sr u = a)) → bsW st sr dt rm a S v = bsW st sr dt rm a S w ∧ wcn st sr a v = wcn st sr a w
  | 0, h, _ => by rw [show w = 0 by omega]; exact ⟨rfl, rfl⟩
  | v + 1, h, hn => by
    by_cases he : w = v + 1
    · rw [he]; exact ⟨rfl, rfl⟩
    · obtain ⟨i1, i2⟩ := bsW_skip (st := st) (sr := sr) (dt := dt) (rm := rm) (a := a) (w := w) (S := S) (v := v) (by omega) (fun u h1 h2 => hn u h1 (by omega))
      have hv := hn v (by omega) (by omega)
      rw [bsW, if_neg hv, wcn_o hv]
      exact ⟨i1, i2⟩
theorem wcn_next {st : Nat → Bool} {sr : Nat → Nat} {a : Nat} : ∀ (k w : Nat), w + k = 240 → wcn st sr a w < wcn st sr a 240 → ∃ v, w ≤ v ∧ v < 240 ∧ st v = true ∧ sr v = a ∧ ∀ u, w ≤ u → u < v → ¬ (st u = true ∧ sr u = a)
  | 0, w, hw, h => by
    rw [show w = 240 by omega] at h
    exact absurd h (Nat.lt_irrefl _)
  | k + 1, w, hw, h => by
    by_cases hc : st w = true ∧ sr w = a
    · exact ⟨w, Nat.le_refl w, by omega, hc.1, hc.2, fun u h1 h2 => by omega⟩
    · rw [← wcn_o hc] at h
      obtain ⟨v, v1, v2, v3, v4, v5⟩ := wcn_next k (w + 1) (by omega) h
      refine ⟨v, by omega, v2, v3, v4, fun u h1 h2 => ?_⟩
      by_cases hu : u = w
      · rw [hu]; exact hc
      · exact v5 u (by omega) h2
/-- a row of gauges in an array -/
def rwOk (R : Nat → Int32) (q : List Nat) : Prop := ∀ i (hi : i < q.length), R i = nI (q[i])
theorem rwOk_put {R : Nat → Int32} {q : List Nat} (h : rwOk R q) (t : Nat) : rwOk (upd R q.length (nI t)) (q ++ [t]) := by
  intro i hi
  simp only [List.length_append, List.length_cons, List.length_nil] at hi
  by_cases he : i = q.length
  · subst he
    rw [List.getElem_append_right (Nat.le_refl _)]
    simp [upd]
  · rw [List.getElem_append_left (by omega)]
    rw [show upd R q.length (nI t) i = R i from if_neg he]
    exact h i (by omega)
theorem l_reach1 (h : ia_H) (st : Nat → Bool) (sr dt : Nat → Nat) (m : Nat) (hm : m ≤ 41) (hw : wbOk h st sr dt m) (g0 f0 : Int32) (n a : Nat) (ha : a < m) (S0 : bsT) (h0 : bsOk m S0) (ha0 : a ∈ S0.1) {Z : Option Value → ia_H → Prop}
    (hN : ∀ (R : Nat → Int32) (a5 a6 : Option Value), rwOk R (bsW st sr dt (rmF (h.1 39)) a S0 240).1 → R_ ia_k_X6_reachFrom Z (126, [some (.ref 29), some (.int g0), some (.int f0), some (.int (nI n)), some (.int (nI a)), a5, a6], [], hB h R (bsW st sr dt (rmF (h.1 39)) a S0 240).2.1 (bsW st sr dt (rmF (h.1 39)) a S0 240).2.2 (bsW st sr dt (rmF (h.1 39)) a S0 240).1.length)) :
    ∀ (k w : Nat), w ≤ 240 → wcn st sr a w + k = wcn st sr a 240 → ∀ (S : bsT), S = bsW st sr dt (rmF (h.1 39)) a S0 w → ∀ (R : Nat → Int32) (a6 : Option Value), rwOk R S.1 → R_ ia_k_X6_reachFrom Z (45, [some (.ref 29), some (.int g0), some (.int f0), some (.int (nI n)), some (.int (nI a)), some (.int (nI (wsm st sr a + wcn st sr a w))), a6], [], hB h R S.2.1 S.2.2 S.1.length) := by
  have ea1 : wsm st sr (a + 1) = wsm st sr a + wcn st sr a 240 := rfl
  have hall := wsm_all st sr (a + 1)
  intro k
  induction k with
  | zero =>
    intro w w1 w2 S hS R a6 hR
    have e : bsW st sr dt (rmF (h.1 39)) a S0 240 = bsW st sr dt (rmF (h.1 39)) a S0 w := by
      refine (bsW_skip w1 (fun u h1 h2 hc => ?_)).1
      have q1 := wcn_t (st := st) (sr := sr) hc.1
      rw [hc.2] at q1
      have q2 := wcn_mono (st := st) (sr := sr) (g := a) h1
      have q3 := wcn_mono (st := st) (sr := sr) (g := a) (show u + 1 ≤ 240 by omega)
      omega
    refine ia_walk (fun pc => Nat.beq pc 126) 50 (fun X hX => ?_)
    conv => whnf
    refine Exists.intro (a + 1) (And.intro (And.intro (nI_1 a) (by omega)) ?_)
    conv => whnf
    refine And.intro (fun c => ?_) (fun c => ?_)
    · exact absurd (show nI (wsm st sr a + wcn st sr a w) < h.1 32 (a + 1) from c) (by rw [hw.2.1 _ (by omega), ea1]; exact nI_nlt (by omega) (by omega))
    · conv => whnf
      rw [hS, ← e]
      rw [hS, ← e] at hR
      exact hX _ (hN R _ _ hR)
  | succ k ih =>
    intro w w1 w2 S hS R a6 hR
    obtain ⟨v, v1, v2, v3, v4, v5⟩ := wcn_next (st := st) (sr := sr) (a := a) (240 - w) w (by omega) (by omega)
    obtain ⟨s1, s2⟩ := bsW_skip (st := st) (sr := sr) (dt := dt) (rm := rmF (h.1 39)) (S := S0) v1 v5
    obtain ⟨okS, aS⟩ := bsW_ok (sr := sr) (rm := rmF (h.1 39)) (fun w hw' hs => (hw.1 w hw' hs).2.1) h0 ha0 w w1
    rw [← hS] at okS aS
    obtain ⟨l1, l2, -⟩ := hw.1 v v2 v3
    have eY : h.1 31 (wsm st sr a + wcn st sr a w) = nI v := by
      have := hw.2.2 v v2 v3
      rw [v4, s2] at this
      exact this
    have et := wcn_t (st := st) (sr := sr) v3
    rw [v4, s2] at et
    have em := wcn_mono (st := st) (sr := sr) (g := a) (show v + 1 ≤ 240 by omega)
    have eS : bsW st sr dt (rmF (h.1 39)) a S0 (v + 1) = bsS (rmF (h.1 39)) dt a S v := by rw [bsW, if_pos ⟨v3, v4⟩, s1, ← hS]
    have lenS := bsOk_len okS
    have next : ∀ (S2 : bsT) (R2 : Nat → Int32) (a6 : Option Value), S2 = bsS (rmF (h.1 39)) dt a S v → rwOk R2 S2.1 → R_ ia_k_X6_reachFrom Z (120, [some (.ref 29), some (.int g0), some (.int f0), some (.int (nI n)), some (.int (nI a)), some (.int (nI (wsm st sr a + wcn st sr a w))), a6], [], hB h R2 S2.2.1 S2.2.2 S2.1.length) := by
      intro S2 R2 a6 hS2 hR2
      refine ia_walk (fun pc => Nat.beq pc 45) 50 (fun X hX => ?_)
      conv => whnf
      rw [nI_1, Nat.add_assoc, ← et]
      exact hX _ (ih (v + 1) (by omega) (by omega) S2 (by rw [hS2, eS]) R2 a6 hR2)
    refine ia_walk (fun pc => Nat.beq pc 120) 80 (fun X hX => ?_)
    conv => whnf
    refine Exists.intro (a + 1) (And.intro (And.intro (nI_1 a) (by omega)) ?_)
    conv => whnf
    refine And.intro (fun c => ?_) (fun c => ?_)
    · conv => whnf
      refine Exists.intro _ (And.intro (And.intro rfl (by omega)) ?_)
      conv => whnf
      refine Exists.intro (v) (And.intro (And.intro (eY) (v2)) ?_)
      conv => whnf
      refine Exists.intro (dt v) (And.intro (And.intro (l1) (by omega)) ?_)
      conv => whnf
      refine And.intro (fun c1 => ?_) (fun c1 => ?_)
      · have hni : ¬ dt v ∈ S.1 := (bsOk_in okS hm (by omega)).mp c1
        conv => whnf
        refine Exists.intro _ (And.intro (And.intro rfl (by omega)) ?_)
        conv => whnf
        obtain ⟨x, ex, ev⟩ := ia_callN (f := Value.int) (v_hasRoom (hB h R S.2.1 S.2.2 S.1.length) v v2)
        rw [← eY] at ev
        refine Exists.intro (_, _) (And.intro ev ?_)
        have ex : x = bif rmF (h.1 39) v then 1 else 0 := ex
        conv => whnf
        refine And.intro (fun c2 => ?_) (fun c2 => ?_)
        · conv => whnf
          refine hX _ (next S R _ ?_ hR)
          unfold bsS
          rw [if_pos (Or.inr ?_)]
          cases hq : rmF (h.1 39) v
          · rfl
          · rw [hq] at ex; rw [ex] at c2; exact absurd c2 (by decide)
        · have hrm : rmF (h.1 39) v = true := by
            cases hq : rmF (h.1 39) v
            · rw [hq] at ex; exact absurd ex c2
            · rfl
          have hcl : S.1.length < 41 := by
            have := bsOk_len (bsOk_put (w := nI v) okS aS hni l2)
            simp only [List.length_append, List.length_cons, List.length_nil] at this
            omega
          conv => whnf
          refine Exists.intro _ (And.intro (And.intro rfl (by omega)) ?_)
          conv => whnf
          refine Exists.intro _ (And.intro (And.intro rfl (by omega)) ?_)
          conv => whnf
          have hk := ia_callE (v_mark h R S.2.1 S.2.2 S.1.length (dt v) (S.2.1 a + 1) (nI v) hcl (by omega))
          rw [← l1, ← eY] at hk
          refine Exists.intro (_, _) (And.intro hk ?_)
          conv => whnf
          have e3 : bsS (rmF (h.1 39)) dt a S v = (S.1 ++ [dt v], upd S.2.1 (dt v) (S.2.1 a + 1), upd S.2.2 (dt v) (nI v)) := by
            unfold bsS
            rw [if_neg (fun q => q.elim hni (fun z => by rw [hrm] at z; cases z))]
          have nx := fun a6 => next _ (upd R S.1.length (nI (dt v))) a6 e3.symm (rwOk_put hR (dt v))
          simp only [List.length_append, List.length_cons, List.length_nil] at nx
          rw [l1, eY]
          exact hX _ (nx _)
      · conv => whnf
        refine hX _ (next S R _ ?_ hR)
        unfold bsS
        rw [if_pos (Or.inl (Classical.not_not.mp (fun q => c1 ((bsOk_in okS hm (by omega)).mpr q))))]
    · exact absurd (show nI (wsm st sr a + wcn st sr a w) < h.1 32 (a + 1) by rw [hw.2.1 _ (by omega), ea1]; exact nI_lt (by omega) (by omega)) c
theorem bsW_len {st : Nat → Bool} {sr dt : Nat → Nat} {rm : Nat → Bool} {a : Nat} {S : bsT} : ∀ w, S.1.length ≤ (bsW st sr dt rm a S w).1.length
  | 0 => Nat.le_refl _
  | w + 1 => by
    have ih := bsW_len (st := st) (sr := sr) (dt := dt) (rm := rm) (a := a) (S := S) w
    rw [bsW]
    by_cases hc : st w = true ∧ sr w = a
    · rw [if_pos hc]
      unfold bsS
      by_cases hq : dt w ∈ (bsW st sr dt rm a S w).1 ∨ rm w = false
      · rw [if_pos hq]; exact ih
      · rw [if_neg hq]
        simp only [List.length_append, List.length_cons, List.length_nil]
        omega
    · rw [if_neg hc]; exact ih
theorem l_reach2 (h : ia_H) (st : Nat → Bool) (sr dt : Nat → Nat) (m : Nat) (hm : m ≤ 41) (hw : wbOk h st sr dt m) (g0 f0 : Int32) {Z : Option Value → ia_H → Prop} : ∀ (k i : Nat) (S : bsT), 41 < i + k → i ≤ S.1.length → bsOk m S → (∀ R, rwOk R (bsR st sr dt (rmF (h.1 39)) k i S).1 → Z none (hB h R (bsR st sr dt (rmF (h.1 39)) k i S).2.1 (bsR st sr dt (rmF (h.1 39)) k i S).2.2 (bsR st sr dt (rmF (h.1 39)) k i S).1.length)) → ∀ (R : Nat → Int32) (a4 a5 a6 : Option Value), rwOk R S.1 → R_ ia_k_X6_reachFrom Z (14, [some (.ref 29), some (.int g0), some (.int f0), some (.int (nI i)), a4, a5, a6], [], hB h R S.2.1 S.2.2 S.1.length) := by
  intro k
  induction k with
  | zero =>
    intro i S hk hi hok
    have := bsOk_len hok
    omega
  | succ k ih =>
    intro i S hk hi hok hZ R a4 a5 a6 hR
    have lenS := bsOk_len hok
    have e7 : upd (h.1 29) 7 (nI S.1.length) 7 = nI S.1.length := by simp [upd]
    by_cases hlt : i < S.1.length
    · have ha : S.1[i] ∈ S.1 := List.getElem_mem hlt
      have ham := (hok.2.1 _ ha).1
      rw [bsR, dif_pos hlt] at hZ
      generalize hae : S.1[i] = a at ha ham hZ
      have eR : R i = nI a := by rw [hR i hlt, hae]
      obtain ⟨ok2, -⟩ := bsW_ok (st := st) (sr := sr) (rm := rmF (h.1 39)) (fun w hw' hs => (hw.1 w hw' hs).2.1) hok ha 240 (Nat.le_refl _)
      refine ia_walk (fun pc => Nat.beq pc 45) 80 (fun X hX => ?_)
      conv => whnf
      refine And.intro (fun c => ?_) (fun c => ?_)
      · conv => whnf
        refine And.intro (fun c1 => ?_) (fun c1 => ?_)
        · conv => whnf
          refine Exists.intro _ (And.intro (And.intro rfl (by omega)) ?_)
          conv => whnf
          refine Exists.intro (a) (And.intro (And.intro (eR) (by omega)) ?_)
          conv => whnf
          have eb : h.1 32 a = nI (wsm st sr a + wcn st sr a 0) := hw.2.1 a (by omega)
          have l1 := l_reach1 h st sr dt m hm hw g0 f0 i a ham S hok ha (Z := Z) (fun R2 b5 b6 hR2 => by
            refine ia_walk (fun pc => Nat.beq pc 14) 50 (fun X hX => ?_)
            conv => whnf
            rw [nI_1]
            exact hX _ (ih (i + 1) _ (by omega) (Nat.le_trans (by omega) (bsW_len 240)) ok2 hZ R2 _ _ _ hR2)) (wcn st sr a 240) 0 (by omega) (Nat.zero_add _) S rfl R a6 hR
          rw [← eb, ← eR] at l1
          exact hX _ l1
        · exact absurd ((nI_lt41 (by omega)).mpr (by omega)) c1
      · exact absurd (show nI i < upd (h.1 29) 7 (nI S.1.length) 7 by rw [e7]; exact nI_lt hlt (by omega)) c
    · rw [bsR, dif_neg hlt] at hZ
      refine ia_walk (fun pc => Nat.beq pc 14) 80 (fun X hX => ?_)
      conv => whnf
      refine And.intro (fun c => ?_) (fun c => ?_)
      · exact absurd (show nI i < upd (h.1 29) 7 (nI S.1.length) 7 from c) (by rw [e7]; exact nI_nlt (by omega) (by omega))
      · conv => whnf
        exact hZ R hR
/-- the root is put in first -/
def bsP (g : Nat) (S : bsT) : bsT := (S.1 ++ [g], upd S.2.1 g 0, upd S.2.2 g (-1))
theorem bsP_ok {m g : Nat} {S : bsT} (h : bsOk m S) (hg : g < m) (hn : ¬ g ∈ S.1) : bsOk m (bsP g S) := by
  refine ⟨?_, fun k hk => ?_, fun k hk hn2 => ?_⟩
  · show (S.1 ++ [g]).Nodup
    rw [List.nodup_append]
    refine ⟨h.1, by simp, fun x hx y hy => ?_⟩
    rw [List.mem_singleton] at hy
    subst hy
    exact fun q => hn (q ▸ hx)
  · show k < m ∧ ∃ j, j < (S.1 ++ [g]).length ∧ upd S.2.1 g 0 k = nI j
    simp only [List.length_append, List.length_cons, List.length_nil]
    rcases List.mem_append.mp hk with q | q
    · obtain ⟨g1, j, k1, k2⟩ := h.2.1 k q
      refine ⟨g1, j, by omega, ?_⟩
      rw [← k2]
      exact if_neg (show ¬ k = g from fun z => hn (z ▸ q))
    · rw [List.mem_singleton] at q
      subst q
      exact ⟨hg, 0, by omega, if_pos rfl⟩
  · have h1 : ¬ k ∈ S.1 := fun q => hn2 (List.mem_append_left _ q)
    have h2 : ¬ k = g := fun q => hn2 (List.mem_append_right _ (by rw [q]; exact List.mem_singleton.mpr rfl))
    show upd S.2.1 g 0 k = -1
    rw [show upd S.2.1 g 0 k = S.2.1 k from if_neg h2]
    exact h.2.2 k hk h1
/-- all that is reached from g, behind what is reached already -/
def bsF (st : Nat → Bool) (sr dt : Nat → Nat) (rm : Nat → Bool) (g : Nat) (S : bsT) : bsT := bsR st sr dt rm 42 S.1.length (bsP g S)
theorem v_reachFrom (h : ia_H) (st : Nat → Bool) (sr dt : Nat → Nat) (m : Nat) (hm : m ≤ 41) (hw : wbOk h st sr dt m) (g : Nat) (hg : g < m) (S : bsT) (hok : bsOk m S) (hn : ¬ g ∈ S.1) (R : Nat → Int32) (hR : rwOk R S.1) : V_ 46 [.ref 29, .int (nI g)] (hB h R S.2.1 S.2.2 S.1.length) (fun r h' => r = none ∧ ∃ R2, rwOk R2 (bsF st sr dt (rmF (h.1 39)) g S).1 ∧ h' = hB h R2 (bsF st sr dt (rmF (h.1 39)) g S).2.1 (bsF st sr dt (rmF (h.1 39)) g S).2.2 (bsF st sr dt (rmF (h.1 39)) g S).1.length) := by
  have okP := bsP_ok hok hg hn
  have lenP := bsOk_len okP
  have lP : (bsP g S).1.length = S.1.length + 1 := by simp [bsP]
  have e7 : (hB h R S.2.1 S.2.2 S.1.length).1 29 7 = nI S.1.length := by
    show upd (h.1 29) 7 (nI S.1.length) 7 = nI S.1.length
    simp [upd]
  refine ia_V_in ia_k_X6_reachFrom [some (.ref 29), some (.int (nI g)), none, none, none, none, none] rfl rfl (Nat.le_of_ble_eq_true rfl) rfl ?_
  refine ia_walk (fun pc => Nat.beq pc 14) 50 (fun X hX => ?_)
  conv => whnf
  refine Exists.intro (_, _) (And.intro (ia_callE (v_mark h R S.2.1 S.2.2 S.1.length g 0 (-1) (by omega) (by omega))) ?_)
  conv => whnf
  have l2 := l_reach2 h st sr dt m hm hw (nI g) (nI S.1.length) (Z := fun r h' => r = none ∧ ∃ R2, rwOk R2 (bsF st sr dt (rmF (h.1 39)) g S).1 ∧ h' = hB h R2 (bsF st sr dt (rmF (h.1 39)) g S).2.1 (bsF st sr dt (rmF (h.1 39)) g S).2.2 (bsF st sr dt (rmF (h.1 39)) g S).1.length) 42 S.1.length (bsP g S) (by omega) (by omega) okP (fun R2 h2 => ⟨rfl, R2, h2, rfl⟩) (upd R S.1.length (nI g)) none none none (rwOk_put hR g)
  rw [lP] at l2
  rw [e7]
  exact hX _ l2
