/-! Web.weave: where each way leads -/
/-- a verdict that stands -/
def stV (v : Int32) : Prop := v = 0 ∨ v = 1
/-- leads, once statements below s are laid (F first, S second, V verdict) -/
def wvF (F S V : Nat → Int32) (D : Nat → Int32) (s : Nat) : Nat → Int32 := fun w => if w < 240 then (if w / 2 < s ∧ (V (w / 2) = 0 ∨ V (w / 2) = 1) then (if w % 2 = 0 then S (w / 2) else F (w / 2)) else -1) else D w
theorem wvF_0 (F S V D : Nat → Int32) : wvF F S V D 0 = flF D 240 (-1) := by
  funext w
  simp only [wvF, flF]
  by_cases h : w < 240
  · rw [if_pos h, if_pos h, if_neg (fun q => by omega)]
  · rw [if_neg h, if_neg h]
theorem wvF_f {F S V D : Nat → Int32} {s : Nat} (h : ¬ (V s = 0 ∨ V s = 1)) : wvF F S V D s = wvF F S V D (s + 1) := by
  funext w
  simp only [wvF]
  by_cases h1 : w < 240
  · rw [if_pos h1, if_pos h1]
    by_cases h2 : w / 2 = s
    · rw [if_neg (fun q => by omega), if_neg (fun q => h (h2 ▸ q.2))]
    · by_cases h3 : w / 2 < s ∧ (V (w / 2) = 0 ∨ V (w / 2) = 1)
      · rw [if_pos h3, if_pos (show w / 2 < s + 1 ∧ (V (w / 2) = 0 ∨ V (w / 2) = 1) from ⟨by omega, h3.2⟩)]
      · rw [if_neg h3, if_neg (fun q => h3 ⟨by omega, q.2⟩)]
  · rw [if_neg h1, if_neg h1]
theorem wvF_t {F S V D : Nat → Int32} {s : Nat} (hs : s < 120) (h : V s = 0 ∨ V s = 1) : upd (upd (wvF F S V D s) (2 * s) (S s)) (2 * s + 1) (F s) = wvF F S V D (s + 1) := by
  funext w
  simp only [upd, wvF]
  by_cases h1 : w = 2 * s + 1
  · rw [if_pos h1]
    have e1 : w / 2 = s := by omega
    rw [if_pos (by omega), e1, if_pos ⟨by omega, h⟩, if_neg (by omega)]
  · rw [if_neg h1]
    by_cases h2 : w = 2 * s
    · rw [if_pos h2]
      have e1 : w / 2 = s := by omega
      rw [if_pos (by omega), e1, if_pos ⟨by omega, h⟩, if_pos (by omega)]
    · rw [if_neg h2]
      by_cases h3 : w < 240
      · rw [if_pos h3, if_pos h3]
        by_cases h4 : w / 2 < s ∧ (V (w / 2) = 0 ∨ V (w / 2) = 1)
        · rw [if_pos h4, if_pos (show w / 2 < s + 1 ∧ (V (w / 2) = 0 ∨ V (w / 2) = 1) from ⟨by omega, h4.2⟩)]
        · rw [if_neg h4, if_neg (fun q => h4 ⟨by omega, q.2⟩)]
      · rw [if_neg h3, if_neg h3]
theorem mul2 (s : Nat) : (2 : Int32) * nI s = nI (2 * s) := pk_mul 2 s
theorem l_weave (h : ia_H) (n : Nat) (hn : n ≤ 120) (eN : h.1 4 7 = nI n) (D : Nat → Int32) {Z : Option Value → ia_H → Prop} (hN : ∀ w : Option Value, R_ ia_k_X6_weave Z (73, [some (.ref 29), some (.ref 4), some (.ref 25), w], [], hsI h 30 (wvF (h.1 7) (h.1 8) (h.1 26) D n))) : ∀ k s : Nat, s + k = n → R_ ia_k_X6_weave Z (10, [some (.ref 29), some (.ref 4), some (.ref 25), some (.int (nI s))], [], hsI h 30 (wvF (h.1 7) (h.1 8) (h.1 26) D s)) := by
  intro k
  induction k with
  | zero =>
    intro s hs
    have es : s = n := by omega
    subst es
    refine ia_walk (fun pc => Nat.beq pc 73) 50 (fun X hX => ?_)
    conv => whnf
    refine And.intro (fun c => ?_) (fun c => ?_)
    · exact absurd c (by show ¬ nI s < h.1 4 7; rw [eN]; exact nI_nlt (Nat.le_refl s) (by omega))
    · conv => whnf
      exact hX _ (hN _)
  | succ k ih =>
    intro s hs
    have lay : (h.1 26 s = 0 ∨ h.1 26 s = 1) → R_ ia_k_X6_weave Z (37, [some (.ref 29), some (.ref 4), some (.ref 25), some (.int (nI s))], [], hsI h 30 (wvF (h.1 7) (h.1 8) (h.1 26) D s)) := by
      intro hv
      refine ia_walk (fun pc => Nat.beq pc 10) 60 (fun X hX => ?_)
      conv => whnf
      refine Exists.intro _ (And.intro (And.intro rfl (by omega)) ?_)
      conv => whnf
      refine Exists.intro (2 * s) (And.intro (And.intro (mul2 s) (by omega)) ?_)
      conv => whnf
      refine Exists.intro _ (And.intro (And.intro rfl (by omega)) ?_)
      conv => whnf
      refine Exists.intro (2 * s + 1) (And.intro (And.intro ((by rw [mul2]; exact nI_1 _)) (by omega)) ?_)
      conv => whnf
      rw [nI_1]
      have e : hsI (hsI (hsI h 30 (wvF (h.1 7) (h.1 8) (h.1 26) D s)) 30 (upd (wvF (h.1 7) (h.1 8) (h.1 26) D s) (2 * s) (h.1 8 s))) 30 (upd (upd (wvF (h.1 7) (h.1 8) (h.1 26) D s) (2 * s) (h.1 8 s)) (2 * s + 1) (h.1 7 s)) = hsI h 30 (wvF (h.1 7) (h.1 8) (h.1 26) D (s + 1)) := by rw [hsI_same, hsI_same, wvF_t (by omega) hv]
      exact hX _ (e ▸ ih (s + 1) (by omega) : ia_Run _ _ _ _ (10, _, _, hsI (hsI (hsI h 30 (wvF (h.1 7) (h.1 8) (h.1 26) D s)) 30 (upd (wvF (h.1 7) (h.1 8) (h.1 26) D s) (2 * s) (h.1 8 s))) 30 (upd (upd (wvF (h.1 7) (h.1 8) (h.1 26) D s) (2 * s) (h.1 8 s)) (2 * s + 1) (h.1 7 s))))
    refine ia_walk (fun pc => Nat.beq pc 37 || Nat.beq pc 10) 60 (fun X hX => ?_)
    conv => whnf
    refine And.intro (fun c => ?_) (fun c => ?_)
    · conv => whnf
      refine Exists.intro _ (And.intro (And.intro rfl (by omega)) ?_)
      conv => whnf
      refine And.intro (fun c1 => ?_) (fun c1 => ?_)
      · conv => whnf
        exact hX _ (lay (Or.inl c1))
      · conv => whnf
        refine Exists.intro _ (And.intro (And.intro rfl (by omega)) ?_)
        conv => whnf
        refine And.intro (fun c2 => ?_) (fun c2 => ?_)
        · conv => whnf
          exact hX _ (lay (Or.inr c2))
        · have c1 : ¬ h.1 26 s = 0 := c1
          have c2 : ¬ h.1 26 s = 1 := c2
          conv => whnf
          rw [nI_1, wvF_f (V := h.1 26) (fun q => q.elim c1 c2)]
          exact hX _ (ih (s + 1) (by omega))
    · exact absurd (by show nI s < h.1 4 7; rw [eN]; exact nI_lt (by omega) (by omega)) c
/-! Web.sortWays -/
theorem xor1 : ∀ w, w < 240 → nI w ^^^ 1 = nI (w ^^^ 1) ∧ w ^^^ 1 < 240 := by decide +kernel
/-- what leads says: st which ways stand, sr from which gauge they come -/
def ldOk (D : Nat → Int32) (st : Nat → Bool) (sr : Nat → Nat) : Prop := ∀ w, w < 240 → (st w = true → ¬ D w = -1 ∧ D (w ^^^ 1) = nI (sr w) ∧ sr w < 41) ∧ (st w = false → D w = -1)
def wcn (st : Nat → Bool) (sr : Nat → Nat) (g : Nat) : Nat → Nat := ct (fun w => st w && Nat.beq (sr w) g)
def wsm (st : Nat → Bool) (sr : Nat → Nat) : Nat → Nat
  | 0 => 0
  | g + 1 => wsm st sr g + wcn st sr g 240
theorem wcn_t {st : Nat → Bool} {sr : Nat → Nat} {w : Nat} (h : st w = true) : wcn st sr (sr w) (w + 1) = wcn st sr (sr w) w + 1 := ct_t (by simp [h])
theorem wcn_o {st : Nat → Bool} {sr : Nat → Nat} {g w : Nat} (h : ¬ (st w = true ∧ sr w = g)) : wcn st sr g (w + 1) = wcn st sr g w := by
  refine ct_f ?_
  cases hs : st w
  · simp
  · simp only [Bool.true_and]
    cases hq : Nat.beq (sr w) g
    · rfl
    · exact absurd ⟨hs, Nat.eq_of_beq_eq_true hq⟩ h
def bg1 (st : Nat → Bool) (sr : Nat → Nat) (f : Nat → Int32) (w : Nat) : Nat → Int32 := fun j => if j < 42 then (if j = 0 then 0 else nI (wcn st sr (j - 1) w)) else f j
theorem bg1_0 (st : Nat → Bool) (sr : Nat → Nat) (f : Nat → Int32) : bg1 st sr f 0 = flF f 42 0 := by
  funext j
  simp only [bg1, flF]
  by_cases h : j < 42
  · rw [if_pos h, if_pos h]
    by_cases h0 : j = 0
    · rw [if_pos h0]
    · rw [if_neg h0]; rfl
  · rw [if_neg h, if_neg h]
theorem bg1_f {st : Nat → Bool} {sr : Nat → Nat} {f : Nat → Int32} {w : Nat} (h : st w = false) : bg1 st sr f w = bg1 st sr f (w + 1) := by
  funext j
  simp only [bg1]
  rw [wcn_o (fun q => by rw [h] at q; cases q.1)]
theorem bg1_t {st : Nat → Bool} {sr : Nat → Nat} {f : Nat → Int32} {w : Nat} (h : st w = true) (hs : sr w < 41) : upd (bg1 st sr f w) (sr w + 1) (bg1 st sr f w (sr w + 1) + 1) = bg1 st sr f (w + 1) := by
  funext j
  simp only [upd, bg1]
  by_cases hj : j = sr w + 1
  · subst hj
    rw [if_pos rfl, if_pos (show sr w + 1 < 42 by omega), if_neg (show ¬ sr w + 1 = 0 by omega), Nat.add_sub_cancel, wcn_t h, nI_succ, if_pos (show sr w + 1 < 42 by omega), if_neg (show ¬ sr w + 1 = 0 by omega)]
  · rw [if_neg hj]
    by_cases h1 : j < 42
    · rw [if_pos h1, if_pos h1]
      by_cases h0 : j = 0
      · rw [if_pos h0, if_pos h0]
      · rw [if_neg h0, if_neg h0, wcn_o (fun q => hj (by omega))]
    · rw [if_neg h1, if_neg h1]
/-- begins in the second loop: below and at g summed up -/
def bg2 (st : Nat → Bool) (sr : Nat → Nat) (f : Nat → Int32) (g : Nat) : Nat → Int32 := fun j => if j < 42 then (if j ≤ g then nI (wsm st sr j) else nI (wcn st sr (j - 1) 240)) else f j
theorem bg2_0 (st : Nat → Bool) (sr : Nat → Nat) (f : Nat → Int32) : bg1 st sr f 240 = bg2 st sr f 0 := by
  funext j
  simp only [bg1, bg2]
  by_cases h : j < 42
  · rw [if_pos h, if_pos h]
    by_cases h0 : j = 0
    · subst h0; rw [if_pos rfl, if_pos (Nat.le_refl 0)]; rfl
    · rw [if_neg h0, if_neg (by omega)]
  · rw [if_neg h, if_neg h]
theorem bg2_s {st : Nat → Bool} {sr : Nat → Nat} {f : Nat → Int32} {g : Nat} (hg : g < 41) : upd (bg2 st sr f g) (g + 1) (bg2 st sr f g (g + 1) + bg2 st sr f g g) = bg2 st sr f (g + 1) := by
  have e1 : bg2 st sr f g (g + 1) = nI (wcn st sr g 240) := by
    simp only [bg2]
    rw [if_pos (show g + 1 < 42 by omega), if_neg (by omega), Nat.add_sub_cancel]
  have e2 : bg2 st sr f g g = nI (wsm st sr g) := by
    simp only [bg2]
    rw [if_pos (show g < 42 by omega), if_pos (Nat.le_refl g)]
  rw [e1, e2, nI_add]
  funext j
  simp only [upd, bg2]
  by_cases hj : j = g + 1
  · subst hj
    rw [if_pos rfl, if_pos (show g + 1 < 42 by omega), if_pos (Nat.le_refl _), wsm, Nat.add_comm]
  · rw [if_neg hj]
    by_cases h1 : j < 42
    · rw [if_pos h1, if_pos h1]
      by_cases h2 : j ≤ g
      · rw [if_pos h2, if_pos (by omega)]
      · rw [if_neg h2, if_neg (by omega)]
    · rw [if_neg h1, if_neg h1]
theorem wcn_le (st : Nat → Bool) (sr : Nat → Nat) (g w : Nat) : wcn st sr g w ≤ w := ct_le _ w
theorem wcn_mono {st : Nat → Bool} {sr : Nat → Nat} {g a : Nat} : ∀ {b : Nat}, a ≤ b → wcn st sr g a ≤ wcn st sr g b
  | 0, h => by rw [show a = 0 by omega]; exact Nat.le_refl _
  | b + 1, h => by
    by_cases he : a = b + 1
    · rw [he]; exact Nat.le_refl _
    · have := wcn_mono (st := st) (sr := sr) (g := g) (a := a) (b := b) (by omega)
      have h2 : wcn st sr g b ≤ wcn st sr g (b + 1) := by
        show ct _ b ≤ ct _ (b + 1)
        rw [ct]
        omega
      omega
theorem wsm_mono {st : Nat → Bool} {sr : Nat → Nat} {a : Nat} : ∀ {b : Nat}, a ≤ b → wsm st sr a ≤ wsm st sr b
  | 0, h => by rw [show a = 0 by omega]; exact Nat.le_refl _
  | b + 1, h => by
    by_cases he : a = b + 1
    · rw [he]; exact Nat.le_refl _
    · have := wsm_mono (st := st) (sr := sr) (a := a) (b := b) (by omega)
      rw [wsm]
      omega
/-- all ways that stand, by their gauges, are no more than 240 -/
theorem wsm_all (st : Nat → Bool) (sr : Nat → Nat) (g : Nat) : wsm st sr g ≤ 240 := by
  have key : ∀ (n g : Nat), (fun n g => ∃ f : Nat → Nat, f 0 = 0 ∧ (∀ k, f (k + 1) = f k + wcn st sr k n) ∧ f g ≤ n) n g := by
    intro n
    induction n with
    | zero =>
      intro g
      refine ⟨fun _ => 0, rfl, fun k => rfl, Nat.le_refl 0⟩
    | succ n ih =>
      intro g
      by_cases hs : st n = true
      · obtain ⟨f, f0, fs, -⟩ := ih g
        refine ⟨fun k => f k + (if sr n < k then 1 else 0), by simp [f0], fun k => ?_, ?_⟩
        · show f (k + 1) + _ = f k + _ + _
          rw [fs k]
          by_cases hk : sr n = k
          · subst hk
            rw [wcn_t hs, if_pos (by omega), if_neg (by omega)]
            omega
          · rw [wcn_o (fun q => hk q.2)]
            by_cases h2 : sr n < k
            · rw [if_pos (by omega), if_pos h2]; omega
            · rw [if_neg (by omega), if_neg h2]; omega
        · obtain ⟨f', f0', fs', fl'⟩ := ih g
          have ee : ∀ k, f k = f' k := by
            intro k
            induction k with
            | zero => rw [f0, f0']
            | succ k ihk => rw [fs, fs', ihk]
          show f g + _ ≤ n + 1
          rw [ee g]
          split <;> omega
      · obtain ⟨f, f0, fs, fl⟩ := ih g
        refine ⟨f, f0, fun k => ?_, by omega⟩
        rw [fs k, wcn_o (fun q => hs q.1)]
  obtain ⟨f, f0, fs, fl⟩ := key 240 g
  have ee : ∀ k, wsm st sr k = f k := by
    intro k
    induction k with
    | zero => rw [f0]; rfl
    | succ k ihk => rw [wsm, fs, ihk]
  rw [ee]
  exact fl
/-- each way that stands, below w, lies in its gauge's piece of the row, in order -/
def wyOk (st : Nat → Bool) (sr : Nat → Nat) (Y : Nat → Int32) (w : Nat) : Prop := ∀ v, v < w → st v = true → Y (wsm st sr (sr v) + wcn st sr (sr v) v) = nI v
theorem wy_pos {st : Nat → Bool} {sr : Nat → Nat} {v : Nat} (hv : v < 240) (hs : st v = true) : wsm st sr (sr v) + wcn st sr (sr v) v < wsm st sr (sr v + 1) := by
  rw [wsm]
  have h1 := wcn_t (st := st) (sr := sr) hs
  have h2 := wcn_mono (st := st) (sr := sr) (g := sr v) (show v + 1 ≤ 240 by omega)
  omega
theorem wyOk_s {st : Nat → Bool} {sr : Nat → Nat} {Y : Nat → Int32} {w : Nat} (hw : w < 240) (h : wyOk st sr Y w) (hs : st w = true) : wyOk st sr (upd Y (wsm st sr (sr w) + wcn st sr (sr w) w) (nI w)) (w + 1) := by
  intro v hv hsv
  simp only [upd]
  by_cases hvw : v = w
  · subst hvw; rw [if_pos rfl]
  · rw [if_neg ?_]
    · exact h v (by omega) hsv
    · intro he
      have p1 := wy_pos (sr := sr) (show v < 240 by omega) hsv
      have p2 := wy_pos (sr := sr) hw hs
      rcases Nat.lt_trichotomy (sr v) (sr w) with q | q | q
      · have := wsm_mono (st := st) (sr := sr) (show sr v + 1 ≤ sr w by omega)
        omega
      · rw [q] at he p1
        have h1 := wcn_t (st := st) (sr := sr) hsv
        have h2 := wcn_mono (st := st) (sr := sr) (g := sr v) (show v + 1 ≤ w by omega)
        rw [q] at h1 h2
        omega
      · have := wsm_mono (st := st) (sr := sr) (show sr w + 1 ≤ sr v by omega)
        omega
theorem wyOk_f {st : Nat → Bool} {sr : Nat → Nat} {Y : Nat → Int32} {w : Nat} (h : wyOk st sr Y w) (hs : st w = false) : wyOk st sr Y (w + 1) := by
  intro v hv hsv
  by_cases hvw : v = w
  · subst hvw; rw [hs] at hsv; cases hsv
  · exact h v (by omega) hsv
/-- sorted in the third loop -/
def srF (st : Nat → Bool) (sr : Nat → Nat) (f : Nat → Int32) (w : Nat) : Nat → Int32 := fun g => if g < 41 then nI (wcn st sr g w) else f g
theorem srF_0 (st : Nat → Bool) (sr : Nat → Nat) (f : Nat → Int32) : srF st sr f 0 = flF f 41 0 := by
  funext g
  simp only [srF, flF]
  rfl
theorem srF_f {st : Nat → Bool} {sr : Nat → Nat} {f : Nat → Int32} {w : Nat} (h : st w = false) : srF st sr f w = srF st sr f (w + 1) := by
  funext g
  simp only [srF]
  rw [wcn_o (fun q => by rw [h] at q; cases q.1)]
theorem srF_t {st : Nat → Bool} {sr : Nat → Nat} {f : Nat → Int32} {w : Nat} (h : st w = true) (hs : sr w < 41) : upd (srF st sr f w) (sr w) (srF st sr f w (sr w) + 1) = srF st sr f (w + 1) := by
  funext g
  simp only [upd, srF]
  by_cases hg : g = sr w
  · subst hg
    rw [if_pos rfl, if_pos hs, if_pos hs, wcn_t h, nI_succ]
  · rw [if_neg hg]
    by_cases h1 : g < 41
    · rw [if_pos h1, if_pos h1, wcn_o (fun q => hg q.2.symm)]
    · rw [if_neg h1, if_neg h1]
theorem l_sort1 (h : ia_H) (st : Nat → Bool) (sr : Nat → Nat) (hD : ldOk (h.1 30) st sr) (f : Nat → Int32) {Z : Option Value → ia_H → Prop} (hN : ∀ w : Option Value, R_ ia_k_X6_sortWays Z (52, [some (.ref 29), w, none], [], hsI h 32 (bg1 st sr f 240))) : ∀ k w : Nat, w + k = 240 → R_ ia_k_X6_sortWays Z (10, [some (.ref 29), some (.int (nI w)), none], [], hsI h 32 (bg1 st sr f w)) := by
  intro k
  induction k with
  | zero =>
    intro w hw
    rw [show w = 240 by omega]
    refine ia_walk (fun pc => Nat.beq pc 52) 50 (fun X hX => ?_)
    conv => whnf
    refine And.intro (fun c => ?_) (fun c => ?_)
    · exact absurd c (by decide)
    · conv => whnf
      exact hX _ (hN _)
  | succ k ih =>
    intro w hw
    have hlt : w < 240 := by omega
    obtain ⟨x1, x2⟩ := xor1 w hlt
    refine ia_walk (fun pc => Nat.beq pc 10) 60 (fun X hX => ?_)
    conv => whnf
    refine And.intro (fun c => ?_) (fun c => ?_)
    · conv => whnf
      refine Exists.intro _ (And.intro (And.intro rfl (by omega)) ?_)
      conv => whnf
      refine And.intro (fun c1 => ?_) (fun c1 => ?_)
      · have hs : st w = false := by
          cases hq : st w
          · rfl
          · exact absurd c1 ((hD w hlt).1 hq).1
        conv => whnf
        rw [nI_1, bg1_f hs]
        exact hX _ (ih (w + 1) (by omega))
      · have hs : st w = true := by
          cases hq : st w
          · exact absurd ((hD w hlt).2 hq) c1
          · rfl
        obtain ⟨d1, d2, d3⟩ := (hD w hlt).1 hs
        conv => whnf
        refine Exists.intro (w ^^^ 1) (And.intro (And.intro (x1) (x2)) ?_)
        conv => whnf
        refine Exists.intro (sr w + 1) (And.intro (And.intro ((show h.1 30 (w ^^^ 1) + 1 = nI (sr w + 1) by rw [d2]; exact nI_1 _)) (by omega)) ?_)
        conv => whnf
        refine Exists.intro (sr w + 1) (And.intro (And.intro ((show h.1 30 (w ^^^ 1) + 1 = nI (sr w + 1) by rw [d2]; exact nI_1 _)) (by omega)) ?_)
        conv => whnf
        rw [nI_1]
        have e : hsI (hsI h 32 (bg1 st sr f w)) 32 (upd (bg1 st sr f w) (sr w + 1) (bg1 st sr f w (sr w + 1) + 1)) = hsI h 32 (bg1 st sr f (w + 1)) := by rw [hsI_same, bg1_t hs d3]
        exact hX _ (e ▸ ih (w + 1) (by omega) : ia_Run _ _ _ _ (10, _, _, hsI (hsI h 32 (bg1 st sr f w)) 32 (upd (bg1 st sr f w) (sr w + 1) (bg1 st sr f w (sr w + 1) + 1))))
    · exact absurd (show nI w < 240 from nI_lt (b := 240) hlt (by omega)) c
theorem l_sort2 (h : ia_H) (st : Nat → Bool) (sr : Nat → Nat) (f : Nat → Int32) {Z : Option Value → ia_H → Prop} (hN : ∀ w : Option Value, R_ ia_k_X6_sortWays Z (83, [some (.ref 29), w, none], [], hsI h 32 (bg2 st sr f 41))) : ∀ k g : Nat, g + k = 41 → R_ ia_k_X6_sortWays Z (54, [some (.ref 29), some (.int (nI g)), none], [], hsI h 32 (bg2 st sr f g)) := by
  intro k
  induction k with
  | zero =>
    intro g hg
    rw [show g = 41 by omega]
    refine ia_walk (fun pc => Nat.beq pc 83) 50 (fun X hX => ?_)
    conv => whnf
    refine And.intro (fun c => ?_) (fun c => ?_)
    · exact absurd c (by decide)
    · conv => whnf
      exact hX _ (hN _)
  | succ k ih =>
    intro g hg
    refine ia_walk (fun pc => Nat.beq pc 54) 60 (fun X hX => ?_)
    conv => whnf
    refine And.intro (fun c => ?_) (fun c => ?_)
    · conv => whnf
      refine Exists.intro (g + 1) (And.intro (And.intro (nI_1 g) (by omega)) ?_)
      conv => whnf
      refine Exists.intro _ (And.intro (And.intro rfl (by omega)) ?_)
      conv => whnf
      refine Exists.intro (g + 1) (And.intro (And.intro (nI_1 g) (by omega)) ?_)
      conv => whnf
      rw [nI_1]
      have e : hsI (hsI h 32 (bg2 st sr f g)) 32 (upd (bg2 st sr f g) (g + 1) (bg2 st sr f g (g + 1) + bg2 st sr f g g)) = hsI h 32 (bg2 st sr f (g + 1)) := by rw [hsI_same, bg2_s (by omega)]
      exact hX _ (e ▸ ih (g + 1) (by omega) : ia_Run _ _ _ _ (54, _, _, hsI (hsI h 32 (bg2 st sr f g)) 32 (upd (bg2 st sr f g) (g + 1) (bg2 st sr f g (g + 1) + bg2 st sr f g g))))
    · exact absurd ((nI_lt41 (by omega)).mpr (by omega)) c
