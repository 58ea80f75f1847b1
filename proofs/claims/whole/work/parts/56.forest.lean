/-! forests as the search leaves them: where the parents stand -/
abbrev gq (q : List Nat) (i : Nat) : Nat := q.getD i 0
theorem gq_l {q l : List Nat} {i : Nat} (h : i < q.length) : gq (q ++ l) i = gq q i := by simp [gq, List.getD, List.getElem?_append_left h]
theorem gq_n (q : List Nat) (t : Nat) : gq (q ++ [t]) q.length = t := by simp [gq, List.getD]
theorem gq_e {q : List Nat} {i : Nat} (h : i < q.length) : gq q i = q[i] := by simp [gq, List.getD, List.getElem?_eq_getElem h]
theorem gq_in {q : List Nat} {i : Nat} (h : i < q.length) : gq q i ∈ q := by
  rw [gq_e h]
  exact List.getElem_mem h
theorem gq_of {q : List Nat} {x : Nat} (h : x ∈ q) : ∃ i, i < q.length ∧ gq q i = x := by
  obtain ⟨i, hi, e⟩ := List.getElem_of_mem h
  exact ⟨i, hi, by rw [gq_e hi, e]⟩
theorem gq_inj {q : List Nat} (hn : q.Nodup) {i j : Nat} (hi : i < q.length) (hj : j < q.length) (h : gq q i = gq q j) : i = j := by
  rw [gq_e hi, gq_e hj] at h
  exact (List.getElem_inj hn).mp h
theorem gq_take {q : List Nat} {m x : Nat} : x ∈ q.take m ↔ ∃ i, i < m ∧ i < q.length ∧ gq q i = x := by
  constructor
  · intro h
    obtain ⟨i, hi, e⟩ := List.getElem_of_mem h
    rw [List.length_take] at hi
    refine ⟨i, by omega, by omega, ?_⟩
    rw [gq_e (by omega), ← e, List.getElem_take]
  · intro ⟨i, h1, h2, h3⟩
    rw [← h3, gq_e h2]
    have : (q.take m)[i]'(by rw [List.length_take]; omega) = q[i] := List.getElem_take
    rw [← this]
    exact List.getElem_mem _
def ftO (st : Nat → Bool) (sr dt : Nat → Nat) (S : bsT) : Prop := ∀ i, i < S.1.length → (S.2.2 (gq S.1 i) = -1 ∧ S.2.1 (gq S.1 i) = 0) ∨ ∃ w j, j < i ∧ w < 240 ∧ st w = true ∧ dt w = gq S.1 i ∧ S.2.2 (gq S.1 i) = nI w ∧ sr w = gq S.1 j ∧ S.2.1 (gq S.1 i) = S.2.1 (gq S.1 j) + 1 ∧ ∀ m, j < m → m ≤ i → ¬ S.2.2 (gq S.1 m) = -1
def ftC (c0 : Nat) (S : bsT) : Prop := ∀ m, c0 < m → m < S.1.length → ¬ S.2.2 (gq S.1 m) = -1
theorem gq_ne {S : bsT} {t i : Nat} (ht : ¬ t ∈ S.1) (hi : i < S.1.length) : ¬ gq S.1 i = t := fun q => ht (q ▸ gq_in hi)
theorem ft_put {st : Nat → Bool} {sr dt : Nat → Nat} {c0 i0 w : Nat} {S : bsT} (h : ftO st sr dt S) (hC : ftC c0 S) (h0 : c0 ≤ i0) (hi : i0 < S.1.length) (hw : w < 240) (hs : st w = true) (ha : sr w = gq S.1 i0) (ht : ¬ dt w ∈ S.1) : ftO st sr dt (S.1 ++ [dt w], upd S.2.1 (dt w) (S.2.1 (sr w) + 1), upd S.2.2 (dt w) (nI w)) ∧ ftC c0 (S.1 ++ [dt w], upd S.2.1 (dt w) (S.2.1 (sr w) + 1), upd S.2.2 (dt w) (nI w)) := by
  have eb : ∀ i, i < S.1.length → upd S.2.2 (dt w) (nI w) (gq (S.1 ++ [dt w]) i) = S.2.2 (gq S.1 i) := fun i hi => by
    rw [gq_l hi]
    exact if_neg (gq_ne ht hi)
  have ed : ∀ i, i < S.1.length → upd S.2.1 (dt w) (S.2.1 (sr w) + 1) (gq (S.1 ++ [dt w]) i) = S.2.1 (gq S.1 i) := fun i hi => by
    rw [gq_l hi]
    exact if_neg (gq_ne ht hi)
  have en : upd S.2.2 (dt w) (nI w) (gq (S.1 ++ [dt w]) S.1.length) = nI w := by
    rw [gq_n]
    exact if_pos rfl
  have hl : (S.1 ++ [dt w]).length = S.1.length + 1 := by simp
  refine ⟨fun i hi2 => ?_, fun m h1 h2 => ?_⟩
  · show (upd S.2.2 (dt w) (nI w) (gq (S.1 ++ [dt w]) i) = -1 ∧ _) ∨ _
    have hi2 : i < S.1.length + 1 := by rw [← hl]; exact hi2
    by_cases hil : i < S.1.length
    · rcases h i hil with ⟨q1, q2⟩ | ⟨v, j, q1, q2, q3, q4, q5, q6, q7, q8⟩
      · exact Or.inl ⟨(eb i hil).trans q1, (ed i hil).trans q2⟩
      · refine Or.inr ⟨v, j, q1, q2, q3, ?_, ?_, ?_, ?_, fun m m1 m2 => ?_⟩
        · exact q4.trans (gq_l hil).symm
        · exact (eb i hil).trans q5
        · exact q6.trans (gq_l (show j < S.1.length by omega)).symm
        · exact (ed i hil).trans (q7.trans (by rw [← ed j (by omega)]))
        · exact fun z => q8 m m1 m2 ((eb m (by omega)).symm.trans z)
    · have hie : i = S.1.length := by omega
      subst hie
      refine Or.inr ⟨w, i0, hi, hw, hs, (gq_n _ _).symm, en, ha.trans (gq_l hi).symm, ?_, fun m m1 m2 => ?_⟩
      · show upd S.2.1 (dt w) (S.2.1 (sr w) + 1) (gq (S.1 ++ [dt w]) S.1.length) = upd S.2.1 (dt w) (S.2.1 (sr w) + 1) (gq (S.1 ++ [dt w]) i0) + 1
        rw [ed i0 hi, gq_n, ha]
        exact if_pos rfl
      · show ¬ upd S.2.2 (dt w) (nI w) (gq (S.1 ++ [dt w]) m) = -1
        by_cases hm : m < S.1.length
        · rw [eb m hm]
          exact hC m (by omega) hm
        · rw [show m = S.1.length by omega, en]
          exact nI_nm1 (by omega)
  · show ¬ upd S.2.2 (dt w) (nI w) (gq (S.1 ++ [dt w]) m) = -1
    have h2 : m < S.1.length + 1 := by rw [← hl]; exact h2
    by_cases hm : m < S.1.length
    · rw [eb m hm]
      exact hC m h1 hm
    · rw [show m = S.1.length by omega, en]
      exact nI_nm1 (by omega)
theorem ft_W {st : Nat → Bool} {sr dt : Nat → Nat} {rm : Nat → Bool} {c0 i0 a : Nat} {S : bsT} (h : ftO st sr dt S) (hC : ftC c0 S) (h0 : c0 ≤ i0) (hi : i0 < S.1.length) (ha : gq S.1 i0 = a) : ∀ w, w ≤ 240 → ftO st sr dt (bsW st sr dt rm a S w) ∧ ftC c0 (bsW st sr dt rm a S w) ∧ ∀ x, x ∈ S.1 → (bsW st sr dt rm a S w).2.2 x = S.2.2 x
  | 0, _ => ⟨h, hC, fun _ _ => rfl⟩
  | w + 1, hw => by
    obtain ⟨i1, i2, i3⟩ := ft_W (rm := rm) h hC h0 hi ha w (by omega)
    rw [bsW]
    by_cases hc : st w = true ∧ sr w = a
    · rw [if_pos hc]
      unfold bsS
      by_cases hq : dt w ∈ (bsW st sr dt rm a S w).1 ∨ rm w = false
      · rw [if_pos hq]; exact ⟨i1, i2, i3⟩
      · rw [if_neg hq]
        obtain ⟨l, hl⟩ := bsW_pre st sr dt rm a S w
        have hlen : i0 < (bsW st sr dt rm a S w).1.length := by rw [hl, List.length_append]; omega
        have hga : sr w = gq (bsW st sr dt rm a S w).1 i0 := by rw [hl, gq_l hi, ha, hc.2]
        have hnt : ¬ dt w ∈ (bsW st sr dt rm a S w).1 := fun z => hq (Or.inl z)
        obtain ⟨p1, p2⟩ := ft_put i1 i2 h0 hlen (by omega) hc.1 hga hnt
        rw [hc.2] at p1 p2
        refine ⟨p1, p2, fun x hx => ?_⟩
        rw [← i3 x hx]
        exact if_neg (show ¬ x = dt w from fun q => hnt (by rw [← q, hl]; exact List.mem_append_left _ hx))
    · rw [if_neg hc]; exact ⟨i1, i2, i3⟩
theorem ft_R {st : Nat → Bool} {sr dt : Nat → Nat} {rm : Nat → Bool} {c0 : Nat} : ∀ (k i : Nat) (S : bsT), ftO st sr dt S → ftC c0 S → c0 ≤ i → ftO st sr dt (bsR st sr dt rm k i S) ∧ ftC c0 (bsR st sr dt rm k i S) ∧ ∀ x, x ∈ S.1 → (bsR st sr dt rm k i S).2.2 x = S.2.2 x
  | 0, _, _, h, hC, _ => ⟨h, hC, fun _ _ => rfl⟩
  | k + 1, i, S, h, hC, hi => by
    rw [bsR]
    by_cases hl : i < S.1.length
    · rw [dif_pos hl]
      obtain ⟨w1, w2, w3⟩ := ft_W (rm := rm) h hC hi hl (gq_e hl) 240 (Nat.le_refl _)
      obtain ⟨r1, r2, r3⟩ := ft_R (rm := rm) k (i + 1) _ w1 w2 (by omega)
      refine ⟨r1, r2, fun x hx => ?_⟩
      obtain ⟨l, hl2⟩ := bsW_pre st sr dt rm (S.1[i]) S 240
      rw [r3 x (by rw [hl2]; exact List.mem_append_left _ hx), w3 x hx]
    · rw [dif_neg hl]
      exact ⟨h, hC, fun _ _ => rfl⟩
theorem ft_P {st : Nat → Bool} {sr dt : Nat → Nat} {g : Nat} {S : bsT} (h : ftO st sr dt S) (ht : ¬ g ∈ S.1) : ftO st sr dt (bsP g S) ∧ ftC S.1.length (bsP g S) ∧ ∀ x, x ∈ S.1 → (bsP g S).2.2 x = S.2.2 x := by
  have eb : ∀ i, i < S.1.length → upd S.2.2 g (-1) (gq (S.1 ++ [g]) i) = S.2.2 (gq S.1 i) := fun i hi => by
    rw [gq_l hi]
    exact if_neg (gq_ne ht hi)
  have ed : ∀ i, i < S.1.length → upd S.2.1 g 0 (gq (S.1 ++ [g]) i) = S.2.1 (gq S.1 i) := fun i hi => by
    rw [gq_l hi]
    exact if_neg (gq_ne ht hi)
  have hl : (S.1 ++ [g]).length = S.1.length + 1 := by simp
  refine ⟨fun i hi2 => ?_, fun m h1 h2 => ?_, fun x hx => if_neg (show ¬ x = g from fun q => ht (q ▸ hx))⟩
  · have hi2 : i < S.1.length + 1 := by rw [← hl]; exact hi2
    show (upd S.2.2 g (-1) (gq (S.1 ++ [g]) i) = -1 ∧ _) ∨ _
    by_cases hil : i < S.1.length
    · rcases h i hil with ⟨q1, q2⟩ | ⟨v, j, q1, q2, q3, q4, q5, q6, q7, q8⟩
      · exact Or.inl ⟨(eb i hil).trans q1, (ed i hil).trans q2⟩
      · refine Or.inr ⟨v, j, q1, q2, q3, ?_, ?_, ?_, ?_, fun m m1 m2 => ?_⟩
        · exact q4.trans (gq_l hil).symm
        · exact (eb i hil).trans q5
        · exact q6.trans (gq_l (show j < S.1.length by omega)).symm
        · exact (ed i hil).trans (q7.trans (by rw [← ed j (by omega)]; rfl))
        · exact fun z => q8 m m1 m2 ((eb m (by omega)).symm.trans z)
    · have hie : i = S.1.length := by omega
      subst hie
      refine Or.inl ⟨?_, ?_⟩
      · rw [gq_n]; exact if_pos rfl
      · show upd S.2.1 g 0 (gq (S.1 ++ [g]) S.1.length) = 0
        rw [gq_n]; exact if_pos rfl
  · have h2 : m < S.1.length + 1 := by rw [← hl]; exact h2
    omega
/-- what is read up to a root, and in all, is closed -/
def ftK (st : Nat → Bool) (sr dt : Nat → Nat) (S : bsT) : Prop := ∀ m, m ≤ S.1.length → (m = S.1.length ∨ S.2.2 (gq S.1 m) = -1) → ∀ w, w < 240 → st w = true → sr w ∈ S.1.take m → dt w ∈ S.1.take m
theorem ft_F {st : Nat → Bool} {sr dt : Nat → Nat} {m0 g : Nat} (hm : m0 ≤ 41) (hd : ∀ w, w < 240 → st w = true → dt w < m0) {S : bsT} (hok : bsOk m0 S) (h : ftO st sr dt S) (hK : ftK st sr dt S) (hg : g < m0) (ht : ¬ g ∈ S.1) : bsOk m0 (bsF st sr dt tt g S) ∧ ftO st sr dt (bsF st sr dt tt g S) ∧ ftK st sr dt (bsF st sr dt tt g S) ∧ g ∈ (bsF st sr dt tt g S).1 ∧ ∀ x, x ∈ S.1 → x ∈ (bsF st sr dt tt g S).1 := by
  obtain ⟨p1, p2, p3⟩ := ft_P (st := st) (sr := sr) (dt := dt) h ht
  obtain ⟨r1, r2, r3⟩ := ft_R (rm := tt) 42 S.1.length (bsP g S) p1 p2 (Nat.le_refl _)
  have okP := bsP_ok hok hg ht
  have okR := bsR_ok (sr := sr) (rm := tt) hd 42 S.1.length (bsP g S) okP
  obtain ⟨l, hl⟩ := bsR_pre st sr dt tt 42 S.1.length (bsP g S)
  have eP : (bsP g S).1 = S.1 ++ [g] := rfl
  have hF : (bsF st sr dt tt g S) = bsR st sr dt tt 42 S.1.length (bsP g S) := rfl
  have hlq : (bsF st sr dt tt g S).1 = S.1 ++ ([g] ++ l) := by rw [hF, hl, eP, List.append_assoc]
  have hcl := bsR_cl (sr := sr) (rm := tt) hm hd 42 S.1.length (bsP g S) (by omega) okP (fun x hx w hw hs he _ => by
    rw [eP, List.take_left] at hx
    have := hK S.1.length (Nat.le_refl _) (Or.inl rfl) w hw hs (by rw [List.take_length, he]; exact hx)
    rw [List.take_length] at this
    rw [eP]
    exact List.mem_append_left _ this)
  refine ⟨okR, r1, fun m hm1 hm2 w hw hs hin => ?_, ?_, fun x hx => ?_⟩
  · by_cases hmS : m ≤ S.1.length
    · have et : (bsF st sr dt tt g S).1.take m = S.1.take m := by
        rw [hlq, List.take_append_of_le_length hmS]
      rw [et] at hin ⊢
      refine hK m hmS ?_ w hw hs hin
      by_cases hme : m = S.1.length
      · exact Or.inl hme
      · have hml : m < S.1.length := by omega
        refine Or.inr ?_
        rcases hm2 with q | q
        · rw [hlq, List.length_append, List.length_append] at q
          simp at q
          omega
        · rw [← p3 _ (gq_in hml), ← r3 _ (by rw [eP]; exact List.mem_append_left _ (gq_in hml)), ← q, ← gq_l (l := [g] ++ l) hml, ← hlq]
          rfl
    · rcases hm2 with q | q
      · rw [q, List.take_length] at hin ⊢
        exact hcl _ hin w hw hs rfl rfl
      · by_cases hml : m < (bsF st sr dt tt g S).1.length
        · exact absurd q (r2 m (by omega) hml)
        · have q : m = (bsF st sr dt tt g S).1.length := by omega
          rw [q, List.take_length] at hin ⊢
          exact hcl _ hin w hw hs rfl rfl
  · rw [hlq]
    exact List.mem_append_right _ (List.mem_append_left _ (List.mem_singleton.mpr rfl))
  · rw [hlq]
    exact List.mem_append_left _ hx
def ftS (st : Nat → Bool) (sr dt : Nat → Nat) (S0 : bsT) : Nat → bsT
  | 0 => S0
  | g + 1 => if g ∈ (ftS st sr dt S0 g).1 then ftS st sr dt S0 g else bsF st sr dt tt g (ftS st sr dt S0 g)
def ftA (st : Nat → Bool) (sr dt : Nat → Nat) (m : Nat) (S : bsT) : Prop := bsOk m S ∧ ftO st sr dt S ∧ ftK st sr dt S
theorem ftS_ok {st : Nat → Bool} {sr dt : Nat → Nat} {m : Nat} (hm : m ≤ 41) (hd : ∀ w, w < 240 → st w = true → dt w < m) {S0 : bsT} (h0 : bsOk m S0) (he : S0.1 = []) : ∀ g, g ≤ m → ftA st sr dt m (ftS st sr dt S0 g) ∧ ∀ x, x < g → x ∈ (ftS st sr dt S0 g).1
  | 0, _ => by
    refine ⟨⟨h0, fun i hi => ?_, fun k _ _ w _ _ hin => ?_⟩, fun x hx => absurd hx (Nat.not_lt_zero x)⟩
    · have hi : i < S0.1.length := hi
      rw [he] at hi
      exact absurd hi (Nat.not_lt_zero i)
    · have hin : sr w ∈ S0.1.take k := hin
      rw [he] at hin
      simp at hin
  | g + 1, hg => by
    obtain ⟨⟨i1, i2, i3⟩, i4⟩ := ftS_ok hm hd h0 he g (by omega)
    rw [ftS]
    by_cases hin : g ∈ (ftS st sr dt S0 g).1
    · rw [if_pos hin]
      refine ⟨⟨i1, i2, i3⟩, fun x hx => ?_⟩
      by_cases hxg : x = g
      · rw [hxg]; exact hin
      · exact i4 x (by omega)
    · rw [if_neg hin]
      obtain ⟨f1, f2, f3, f4, f5⟩ := ft_F hm hd i1 i2 i3 (show g < m by omega) hin
      refine ⟨⟨f1, f2, f3⟩, fun x hx => ?_⟩
      by_cases hxg : x = g
      · rw [hxg]; exact f4
      · exact f5 x (i4 x (by omega))
noncomputable def fW (S : bsT) (x : Nat) : Nat := Classical.epsilon (fun w => w < 240 ∧ S.2.2 x = nI w)
noncomputable def fP (A B : Nat → Nat) (S : bsT) (x : Nat) : Nat := if S.2.2 x = -1 then x else csr A B (fW S x)
noncomputable def fE (S : bsT) (x : Nat) : Nat := Classical.epsilon (fun k => k < 2 ^ 30 ∧ S.2.1 x = nI k)
theorem fW_eq {S : bsT} {x w : Nat} (hw : w < 240) (h : S.2.2 x = nI w) : fW S x = w := by
  have q := Classical.epsilon_spec (p := fun w => w < 240 ∧ S.2.2 x = nI w) ⟨w, hw, h⟩
  exact nI_inj (Nat.lt_trans q.1 (by omega)) (by omega) (q.2.symm.trans h)
theorem fE_eq {S : bsT} {x k : Nat} (hk : k < 2 ^ 30) (h : S.2.1 x = nI k) : fE S x = k := by
  have q := Classical.epsilon_spec (p := fun k => k < 2 ^ 30 ∧ S.2.1 x = nI k) ⟨k, hk, h⟩
  exact nI_inj (Nat.lt_trans q.1 (by omega)) (by omega) (q.2.symm.trans h)
/-- the i-th one that was reached: a root, or a gauge with a parent ahead of it -/
theorem ft_at {sd : Nat → Bool} {A B : Nat → Nat} {m : Nat} (hm : m ≤ 41) {S : bsT} (h : ftA (cst sd) (csr A B) (cdt A B) m S) {i : Nat} (hi : i < S.1.length) : (S.2.2 (gq S.1 i) = -1 ∧ fE S (gq S.1 i) = 0 ∧ fP A B S (gq S.1 i) = gq S.1 i) ∨ ∃ j, j < i ∧ ¬ S.2.2 (gq S.1 i) = -1 ∧ fW S (gq S.1 i) < 240 ∧ cst sd (fW S (gq S.1 i)) = true ∧ cdt A B (fW S (gq S.1 i)) = gq S.1 i ∧ S.2.2 (gq S.1 i) = nI (fW S (gq S.1 i)) ∧ csr A B (fW S (gq S.1 i)) = gq S.1 j ∧ fP A B S (gq S.1 i) = gq S.1 j ∧ fE S (gq S.1 i) = fE S (gq S.1 j) + 1 ∧ ∀ k, j < k → k ≤ i → ¬ S.2.2 (gq S.1 k) = -1 := by
  obtain ⟨h1, h2, -⟩ := h
  have hl := bsOk_len h1
  rcases h2 i hi with ⟨q1, q2⟩ | ⟨w, j, q1, q2, q3, q4, q5, q6, q7, q8⟩
  · refine Or.inl ⟨q1, fE_eq (by omega) q2, ?_⟩
    unfold fP
    rw [if_pos q1]
  · have ew := fW_eq q2 q5
    have hnb : ¬ S.2.2 (gq S.1 i) = -1 := q8 i q1 (Nat.le_refl _)
    have hj : j < S.1.length := by omega
    obtain ⟨-, k, k1, k2⟩ := h1.2.1 _ (gq_in hj)
    refine Or.inr ⟨j, q1, hnb, ?_, ?_, ?_, ?_, ?_, ?_, ?_, q8⟩
    · rw [ew]; exact q2
    · rw [ew]; exact q3
    · rw [ew]; exact q4
    · rw [ew]; exact q5
    · rw [ew]; exact q6
    · unfold fP
      rw [if_neg hnb, ew]
      exact q6
    · rw [fE_eq (S := S) (x := gq S.1 j) (k := k) (by omega) k2]
      refine fE_eq (by omega) ?_
      rw [q7, k2, nI_1]
/-- the root that was met last is one's own -/
theorem ft_rt {sd : Nat → Bool} {A B : Nat → Nat} {m : Nat} (hm : m ≤ 41) {S : bsT} (h : ftA (cst sd) (csr A B) (cdt A B) m S) : ∀ (b i : Nat), i < b → i < S.1.length → ∃ k, k ≤ i ∧ S.2.2 (gq S.1 k) = -1 ∧ rto (fP A B S) (fE S) (gq S.1 i) = gq S.1 k ∧ ∀ k', k < k' → k' ≤ i → ¬ S.2.2 (gq S.1 k') = -1
  | 0, i, hb, _ => absurd hb (Nat.not_lt_zero i)
  | b + 1, i, hb, hi => by
    rcases ft_at hm h hi with ⟨q1, q2, q3⟩ | ⟨j, q1, q2, q3, q4, q5, q6, q7, q8, q9, q10⟩
    · exact ⟨i, Nat.le_refl _, q1, rto_r q2, fun k' h1 h2 => by omega⟩
    · obtain ⟨k, k1, k2, k3, k4⟩ := ft_rt hm h b j (by omega) (by omega)
      refine ⟨k, by omega, k2, ?_, fun k' h1 h2 => ?_⟩
      · rw [rto_s (by rw [q8]; exact q9), q8]
        exact k3
      · by_cases hk : k' ≤ j
        · exact k4 k' h1 hk
        · exact q10 k' (by omega) h2
theorem ft_one {sd : Nat → Bool} {A B : Nat → Nat} {m : Nat} (hm : m ≤ 41) {S : bsT} (h : ftA (cst sd) (csr A B) (cdt A B) m S) {w i j mi mj : Nat} (hw : w < 240) (hs : cst sd w = true) (hj : j < S.1.length) (hi : i < S.1.length) (ei : gq S.1 i = csr A B w) (ej : gq S.1 j = cdt A B w) (i1 : mi ≤ i) (j1 : mj ≤ j) (j2 : S.2.2 (gq S.1 mj) = -1) (i3 : ∀ k', mi < k' → k' ≤ i → ¬ S.2.2 (gq S.1 k') = -1) : ¬ mi < mj := by
  intro hlt
  have hij : i < mj := by
    apply Classical.byContradiction
    intro q
    exact i3 mj hlt (by omega) j2
  have q := h.2.2 mj (by omega) (Or.inr j2) w hw hs (by rw [← ei]; exact gq_take.mpr ⟨i, hij, hi, rfl⟩)
  rw [← ej] at q
  obtain ⟨j', h1, h2, h3⟩ := gq_take.mp q
  have := gq_inj h.1.1 h2 hj h3
  omega
theorem ft_trs {sd : Nat → Bool} {A B : Nat → Nat} {n m : Nat} (hg : grOk sd A B n m) (hA : ∀ s, s < n → A s < m ∧ B s < m) {S : bsT} (h : ftA (cst sd) (csr A B) (cdt A B) m S) (hall : ∀ x, x < m → x ∈ S.1) : trs sd A B n m (fP A B S) (fE S) (fun x => fW S x / 2) := by
  have hm := hg.1
  have hin : ∀ i, i < S.1.length → gq S.1 i < m := fun i hi => (h.1.2.1 _ (gq_in hi)).1
  refine ⟨fun x hx => ?_, fun x hx ex => ?_, hA, fun s hs h1 => ?_⟩
  · obtain ⟨i, hi, e⟩ := gq_of (hall x hx)
    subst e
    rcases ft_at hm h hi with ⟨q1, q2, q3⟩ | ⟨j, q1, q2, q3, q4, q5, q6, q7, q8, q9, q10⟩
    · rw [q3]; exact ⟨hx, Or.inl q2⟩
    · rw [q8]; exact ⟨hin j (by omega), Or.inr q9⟩
  · obtain ⟨i, hi, e⟩ := gq_of (hall x hx)
    subst e
    rcases ft_at hm h hi with ⟨q1, q2, q3⟩ | ⟨j, q1, q2, q3, q4, q5, q6, q7, q8, q9, q10⟩
    · exact absurd q2 ex
    · show fW S (gq S.1 i) / 2 < n ∧ sd (fW S (gq S.1 i) / 2) = true ∧ _
      have hsd : sd (fW S (gq S.1 i) / 2) = true := q4
      refine ⟨Classical.byContradiction (fun z => ?_), hsd, ?_⟩
      · rw [hg.2.2.1 _ (by omega)] at hsd
        cases hsd
      · rw [q8]
        rcases c_ends A B (fW S (gq S.1 i)) with ⟨-, z2, z3⟩ | ⟨-, z2, z3⟩
        · exact Or.inr ⟨z3.symm.trans q5, z2.symm.trans q7⟩
        · exact Or.inl ⟨z3.symm.trans q5, z2.symm.trans q7⟩
  · obtain ⟨hAs, hBs⟩ := hA s hs
    have hn := hg.2.1
    obtain ⟨i, hi, ei⟩ := gq_of (hall _ hAs)
    obtain ⟨j, hj, ej⟩ := gq_of (hall _ hBs)
    obtain ⟨mi, i1, i2, i3, i4⟩ := ft_rt hm h (i + 1) i (by omega) hi
    obtain ⟨mj, j1, j2, j3, j4⟩ := ft_rt hm h (j + 1) j (by omega) hj
    obtain ⟨a1, a2, a3⟩ := c_even sd A B s
    obtain ⟨b1, b2, b3⟩ := c_odd sd A B s
    have h2 := ft_one hm h (w := 2 * s) (by omega) (a1.trans h1) hj hi (by rw [a2, ei]) (by rw [a3, ej]) i1 j1 j2 i4
    have h3 := ft_one hm h (w := 2 * s + 1) (by omega) (b1.trans h1) hi hj (by rw [b2, ej]) (by rw [b3, ei]) j1 i1 i2 j4
    rw [← ei, ← ej, i3, j3, show mi = mj by omega]
