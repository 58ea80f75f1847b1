/-! What is reached: nothing is left out, and each has one by which it was reached -/
theorem bsS_pre (rm : Nat → Bool) (dt : Nat → Nat) (a : Nat) (S : bsT) (w : Nat) : ∃ l, (bsS rm dt a S w).1 = S.1 ++ l := by
  unfold bsS
  by_cases hq : dt w ∈ S.1 ∨ rm w = false
  · rw [if_pos hq]; exact ⟨[], by simp⟩
  · rw [if_neg hq]; exact ⟨[dt w], rfl⟩
theorem bsW_pre (st : Nat → Bool) (sr dt : Nat → Nat) (rm : Nat → Bool) (a : Nat) (S : bsT) : ∀ w, ∃ l, (bsW st sr dt rm a S w).1 = S.1 ++ l
  | 0 => ⟨[], by simp [bsW]⟩
  | w + 1 => by
    obtain ⟨l, el⟩ := bsW_pre st sr dt rm a S w
    rw [bsW]
    by_cases hc : st w = true ∧ sr w = a
    · rw [if_pos hc]
      obtain ⟨l2, e2⟩ := bsS_pre rm dt a (bsW st sr dt rm a S w) w
      exact ⟨l ++ l2, by rw [e2, el, List.append_assoc]⟩
    · rw [if_neg hc]; exact ⟨l, el⟩
theorem bsS_in {rm : Nat → Bool} {dt : Nat → Nat} {a : Nat} {S : bsT} {w : Nat} (hr : rm w = true) : dt w ∈ (bsS rm dt a S w).1 := by
  unfold bsS
  by_cases hq : dt w ∈ S.1 ∨ rm w = false
  · rw [if_pos hq]
    rcases hq with q | q
    · exact q
    · rw [hr] at q; cases q
  · rw [if_neg hq]
    exact List.mem_append_right _ (List.mem_singleton.mpr rfl)
theorem bsW_cl {st : Nat → Bool} {sr dt : Nat → Nat} {rm : Nat → Bool} {a : Nat} {S : bsT} : ∀ {w v : Nat}, v < w → st v = true → sr v = a → rm v = true → dt v ∈ (bsW st sr dt rm a S w).1
  | 0, v, hv, _, _, _ => absurd hv (Nat.not_lt_zero v)
  | w + 1, v, hv, h1, h2, h3 => by
    rw [bsW]
    by_cases hvw : v = w
    · subst hvw
      rw [if_pos ⟨h1, h2⟩]
      exact bsS_in h3
    · have ih := bsW_cl (st := st) (sr := sr) (dt := dt) (rm := rm) (a := a) (S := S) (w := w) (v := v) (by omega) h1 h2 h3
      by_cases hc : st w = true ∧ sr w = a
      · rw [if_pos hc]
        obtain ⟨l2, e2⟩ := bsS_pre rm dt a (bsW st sr dt rm a S w) w
        rw [e2]
        exact List.mem_append_left _ ih
      · rw [if_neg hc]; exact ih
/-- all ways from g lead to what is reached -/
def bsC (st : Nat → Bool) (sr dt : Nat → Nat) (rm : Nat → Bool) (q : List Nat) (g : Nat) : Prop := ∀ w, w < 240 → st w = true → sr w = g → rm w = true → dt w ∈ q
theorem bsR_pre (st : Nat → Bool) (sr dt : Nat → Nat) (rm : Nat → Bool) : ∀ (k i : Nat) (S : bsT), ∃ l, (bsR st sr dt rm k i S).1 = S.1 ++ l
  | 0, _, S => ⟨[], by simp [bsR]⟩
  | k + 1, i, S => by
    rw [bsR]
    by_cases hi : i < S.1.length
    · rw [dif_pos hi]
      obtain ⟨l1, e1⟩ := bsR_pre st sr dt rm k (i + 1) (bsW st sr dt rm S.1[i] S 240)
      obtain ⟨l2, e2⟩ := bsW_pre st sr dt rm S.1[i] S 240
      exact ⟨l2 ++ l1, by rw [e1, e2, List.append_assoc]⟩
    · rw [dif_neg hi]; exact ⟨[], by simp⟩
theorem bsR_ok {st : Nat → Bool} {sr dt : Nat → Nat} {rm : Nat → Bool} {m : Nat} (hd : ∀ w, w < 240 → st w = true → dt w < m) : ∀ (k i : Nat) (S : bsT), bsOk m S → bsOk m (bsR st sr dt rm k i S)
  | 0, _, S, h => h
  | k + 1, i, S, h => by
    rw [bsR]
    by_cases hi : i < S.1.length
    · rw [dif_pos hi]
      exact bsR_ok hd k (i + 1) _ (bsW_ok hd h (List.getElem_mem hi) 240 (Nat.le_refl _)).1
    · rw [dif_neg hi]; exact h
theorem bsR_cl {st : Nat → Bool} {sr dt : Nat → Nat} {rm : Nat → Bool} {m : Nat} (hm : m ≤ 41) (hd : ∀ w, w < 240 → st w = true → dt w < m) : ∀ (k i : Nat) (S : bsT), 41 < i + k → bsOk m S → (∀ g, g ∈ S.1.take i → bsC st sr dt rm S.1 g) → ∀ g, g ∈ (bsR st sr dt rm k i S).1 → bsC st sr dt rm (bsR st sr dt rm k i S).1 g
  | 0, i, S, hk, hok, hc => by
    intro g hg
    have hl := bsOk_len hok
    rw [List.take_of_length_le (by omega)] at hc
    exact hc g hg
  | k + 1, i, S, hk, hok, hc => by
    rw [bsR]
    by_cases hi : i < S.1.length
    · rw [dif_pos hi]
      have ha : S.1[i] ∈ S.1 := List.getElem_mem hi
      obtain ⟨ok2, -⟩ := bsW_ok (sr := sr) (rm := rm) hd hok ha 240 (Nat.le_refl _)
      obtain ⟨l, el⟩ := bsW_pre st sr dt rm S.1[i] S 240
      refine bsR_cl hm hd k (i + 1) _ (by omega) ok2 (fun g hg => ?_)
      rw [el, List.take_append_of_le_length (by omega), List.take_succ_eq_append_getElem hi] at hg
      rcases List.mem_append.mp hg with q | q
      · intro w w1 w2 w3 w4
        rw [el]
        exact List.mem_append_left _ (hc g q w w1 w2 w3 w4)
      · rw [List.mem_singleton] at q
        subst q
        intro w w1 w2 w3 w4
        exact bsW_cl w1 w2 w3 w4
    · rw [dif_neg hi]
      intro g hg
      rw [List.take_of_length_le (by omega)] at hc
      exact hc g hg
/-- each that is reached: a root, or by a way that stands, from one that is reached too -/
def bsB (st : Nat → Bool) (sr dt : Nat → Nat) (rm : Nat → Bool) (S : bsT) : Prop := ∀ g, g ∈ S.1 → (S.2.2 g = -1 ∧ S.2.1 g = 0) ∨ ∃ w, w < 240 ∧ st w = true ∧ rm w = true ∧ dt w = g ∧ S.2.2 g = nI w ∧ sr w ∈ S.1 ∧ S.2.1 g = S.2.1 (sr w) + 1
theorem bsB_put {st : Nat → Bool} {sr dt : Nat → Nat} {rm : Nat → Bool} {S : bsT} (h : bsB st sr dt rm S) {w : Nat} (hw : w < 240) (h1 : st w = true) (h2 : rm w = true) (ha : sr w ∈ S.1) (hn : ¬ dt w ∈ S.1) : bsB st sr dt rm (S.1 ++ [dt w], upd S.2.1 (dt w) (S.2.1 (sr w) + 1), upd S.2.2 (dt w) (nI w)) := by
  have keep : ∀ (f : Nat → Int32) (x : Int32) (k : Nat), k ∈ S.1 → upd f (dt w) x k = f k := fun f x k hk => if_neg (show ¬ k = dt w from fun z => hn (z ▸ hk))
  intro g hg
  rcases List.mem_append.mp hg with q | q
  · rcases h g q with ⟨e1, e2⟩ | ⟨v, v1, v2, v3, v4, v5, v6, v7⟩
    · refine Or.inl ⟨?_, ?_⟩
      · show upd S.2.2 (dt w) (nI w) g = -1
        rw [keep _ _ _ q]; exact e1
      · show upd S.2.1 (dt w) (S.2.1 (sr w) + 1) g = 0
        rw [keep _ _ _ q]; exact e2
    · refine Or.inr ⟨v, v1, v2, v3, v4, ?_, List.mem_append_left _ v6, ?_⟩
      · show upd S.2.2 (dt w) (nI w) g = nI v
        rw [keep _ _ _ q]; exact v5
      · show upd S.2.1 (dt w) (S.2.1 (sr w) + 1) g = upd S.2.1 (dt w) (S.2.1 (sr w) + 1) (sr v) + 1
        rw [keep _ _ _ q, keep _ _ _ v6]; exact v7
  · rw [List.mem_singleton] at q
    subst q
    refine Or.inr ⟨w, hw, h1, h2, rfl, if_pos rfl, List.mem_append_left _ ha, ?_⟩
    show upd S.2.1 (dt w) (S.2.1 (sr w) + 1) (dt w) = upd S.2.1 (dt w) (S.2.1 (sr w) + 1) (sr w) + 1
    rw [keep _ _ _ ha]
    exact if_pos rfl
theorem bsB_W {st : Nat → Bool} {sr dt : Nat → Nat} {rm : Nat → Bool} {a : Nat} {S : bsT} (h : bsB st sr dt rm S) (ha : a ∈ S.1) : ∀ w, w ≤ 240 → bsB st sr dt rm (bsW st sr dt rm a S w)
  | 0, _ => h
  | w + 1, hw => by
    have ih := bsB_W h ha w (by omega)
    obtain ⟨l, el⟩ := bsW_pre st sr dt rm a S w
    have ha2 : a ∈ (bsW st sr dt rm a S w).1 := by rw [el]; exact List.mem_append_left _ ha
    rw [bsW]
    by_cases hc : st w = true ∧ sr w = a
    · rw [if_pos hc]
      unfold bsS
      by_cases hq : dt w ∈ (bsW st sr dt rm a S w).1 ∨ rm w = false
      · rw [if_pos hq]; exact ih
      · rw [if_neg hq]
        have h3 : rm w = true := by
          cases e : rm w
          · exact absurd (Or.inr e) hq
          · rfl
        have := bsB_put ih (show w < 240 by omega) hc.1 h3 (by rw [hc.2]; exact ha2) (fun z => hq (Or.inl z))
        rw [hc.2] at this
        exact this
    · rw [if_neg hc]; exact ih
theorem bsB_R {st : Nat → Bool} {sr dt : Nat → Nat} {rm : Nat → Bool} : ∀ (k i : Nat) (S : bsT), bsB st sr dt rm S → bsB st sr dt rm (bsR st sr dt rm k i S)
  | 0, _, _, h => h
  | k + 1, i, S, h => by
    rw [bsR]
    by_cases hi : i < S.1.length
    · rw [dif_pos hi]
      exact bsB_R k (i + 1) _ (bsB_W h (List.getElem_mem hi) 240 (Nat.le_refl _))
    · rw [dif_neg hi]; exact h
theorem bsB_P {st : Nat → Bool} {sr dt : Nat → Nat} {rm : Nat → Bool} {g : Nat} {S : bsT} (h : bsB st sr dt rm S) (hn : ¬ g ∈ S.1) : bsB st sr dt rm (bsP g S) := by
  have keep : ∀ (f : Nat → Int32) (x : Int32) (k : Nat), k ∈ S.1 → upd f g x k = f k := fun f x k hk => if_neg (show ¬ k = g from fun z => hn (z ▸ hk))
  intro k hk
  rcases List.mem_append.mp hk with q | q
  · rcases h k q with ⟨e1, e2⟩ | ⟨v, v1, v2, v3, v4, v5, v6, v7⟩
    · refine Or.inl ⟨?_, ?_⟩
      · show upd S.2.2 g (-1) k = -1
        rw [keep _ _ _ q]; exact e1
      · show upd S.2.1 g 0 k = 0
        rw [keep _ _ _ q]; exact e2
    · refine Or.inr ⟨v, v1, v2, v3, v4, ?_, List.mem_append_left _ v6, ?_⟩
      · show upd S.2.2 g (-1) k = nI v
        rw [keep _ _ _ q]; exact v5
      · show upd S.2.1 g 0 k = upd S.2.1 g 0 (sr v) + 1
        rw [keep _ _ _ q, keep _ _ _ v6]; exact v7
  · rw [List.mem_singleton] at q
    subst q
    exact Or.inl ⟨if_pos rfl, if_pos rfl⟩
/-- from one gauge on an empty row: closed, and each by another -/
theorem bsF_all {st : Nat → Bool} {sr dt : Nat → Nat} {rm : Nat → Bool} {m : Nat} (hm : m ≤ 41) (hd : ∀ w, w < 240 → st w = true → dt w < m) {g : Nat} (hg : g < m) : bsOk m (bsF st sr dt rm g bs0) ∧ g ∈ (bsF st sr dt rm g bs0).1 ∧ (∀ k, k ∈ (bsF st sr dt rm g bs0).1 → bsC st sr dt rm (bsF st sr dt rm g bs0).1 k) ∧ bsB st sr dt rm (bsF st sr dt rm g bs0) := by
  have hn : ¬ g ∈ bs0.1 := List.not_mem_nil
  have okP := bsP_ok (bs0_ok m) hg hn
  unfold bsF
  refine ⟨bsR_ok hd _ _ _ okP, ?_, bsR_cl hm hd _ _ _ (by omega) okP (fun k hk => ?_), bsB_R _ _ _ (bsB_P (fun k hk => absurd hk List.not_mem_nil) hn)⟩
  · obtain ⟨l, el⟩ := bsR_pre st sr dt rm 42 bs0.1.length (bsP g bs0)
    rw [el]
    exact List.mem_append_left _ (List.mem_append_right _ (List.mem_singleton.mpr rfl))
  · exact absurd hk (by show ¬ k ∈ List.take 0 _; simp)
