/-! Groups.judge -/
def hJ (h : ia_H) (L : Nat → Int32) (O : Nat → Int64) (V : Nat → Int32) : ia_H := hsI (hG h L O) 26 V
abbrev jgT : Type := (Nat → Int32) × (Nat → Int64) × (Nat → Int32)
/-- one statement more is judged -/
def jgS (A B : Nat → Nat) (m : Nat → Int64) (out : Nat → Int32) (s : Nat) (t : jgT) : jgT :=
  if out s = 0 then (if wgF t.1 t.2.1 (A s) (B s) (m s) = 0 then (jnL t.1 (A s) (B s), jnO t.1 t.2.1 (A s) (B s) (m s), upd t.2.2 s 0) else (t.1, t.2.1, upd t.2.2 s (wgF t.1 t.2.1 (A s) (B s) (m s)))) else (t.1, t.2.1, upd t.2.2 s 4)
def jgR (A B : Nat → Nat) (m : Nat → Int64) (out : Nat → Int32) (t : jgT) : Nat → jgT
  | 0 => t
  | s + 1 => jgS A B m out s (jgR A B m out t s)
/-- each gauge below n by itself -/
def jgL (L : Nat → Int32) (n : Nat) : Nat → Int32 := fun j => if j < n then nI j else L j
def jgO (O : Nat → Int64) (n : Nat) : Nat → Int64 := fun j => if j < n then 0 else O j
theorem jgL_0 (L : Nat → Int32) : jgL L 0 = L := by funext j; simp [jgL]
theorem jgO_0 (O : Nat → Int64) : jgO O 0 = O := by funext j; simp [jgO]
theorem jgL_s (L : Nat → Int32) (n : Nat) : upd (jgL L n) n (nI n) = jgL L (n + 1) := by
  funext j
  simp only [upd, jgL]
  by_cases hj : j = n
  · subst hj; simp
  · by_cases hl : j < n
    · simp [hj, hl, Nat.lt_succ_of_lt hl]
    · simp [hj, hl, show ¬ j < n + 1 by omega]
theorem jgO_s (O : Nat → Int64) (n : Nat) : vp_updL (jgO O n) n 0 = jgO O (n + 1) := by
  funext j
  simp only [vp_updL, jgO]
  by_cases hj : j = n
  · subst hj; simp
  · by_cases hl : j < n
    · simp [hj, hl, Nat.lt_succ_of_lt hl]
    · simp [hj, hl, show ¬ j < n + 1 by omega]
theorem hJ_put (h : ia_H) (L : Nat → Int32) (O : Nat → Int64) (V W : Nat → Int32) : hsI (hJ h L O V) 26 W = hJ h L O W := hsI_same _ _ _ _
theorem hJ_G (h : ia_H) (L L2 : Nat → Int32) (O O2 : Nat → Int64) (V : Nat → Int32) : hG (hJ h L O V) L2 O2 = hJ h L2 O2 V := by
  refine Prod.ext (funext fun y => ?_) (funext fun y => ?_)
  · simp only [hG, hJ, hsI, hsL]
    by_cases h1 : y = 27
    · subst h1; simp
    · by_cases h2 : y = 26
      · subst h2; simp
      · simp [h1, h2]
  · simp only [hG, hJ, hsI, hsL]
    by_cases h1 : y = 28
    · subst h1; simp
    · simp [h1]
theorem l_judge (h : ia_H) (n : Nat) (hn : n ≤ 120) (hst : h.1 4 7 = nI n) (A B : Nat → Nat) (hA : ∀ s, s < n → h.1 7 s = nI (A s) ∧ A s < 41) (hB : ∀ s, s < n → h.1 8 s = nI (B s) ∧ B s < 41) (t0 : jgT) {Z : Option Value → ia_H → Prop} (hZ : Z none (hJ h (jgR A B (h.2 9) (h.1 10) t0 n).1 (jgR A B (h.2 9) (h.1 10) t0 n).2.1 (jgR A B (h.2 9) (h.1 10) t0 n).2.2)) : ∀ k s : Nat, s + k = n → ∀ t : jgT, t = jgR A B (h.2 9) (h.1 10) t0 s → R_ ia_k_X1_judge Z (30, [some (.ref 25), some (.ref 4), some (.int (nI s))], [], hJ h t.1 t.2.1 t.2.2) := by
  intro k
  induction k with
  | zero =>
    intro s hs t ht
    have es : s = n := by omega
    subst es
    refine ia_walk (fun pc => Nat.beq pc 30) 50 (fun X hX => ?_)
    conv => whnf
    refine And.intro (fun c => ?_) (fun c => ?_)
    · exact absurd c (by show ¬ nI s < h.1 4 7; rw [hst]; exact nI_nlt (Nat.le_refl s) (by omega))
    · conv => whnf
      rw [ht]
      exact hZ
  | succ k ih =>
    intro s hs t ht
    obtain ⟨L, O, V⟩ := t
    have hlt : s < n := by omega
    obtain ⟨a1, a2⟩ := hA s hlt
    obtain ⟨b1, b2⟩ := hB s hlt
    -- behind the verdict v
    have tail : ∀ v : Int32, (¬ v = 0 → jgS A B (h.2 9) (h.1 10) s (L, O, V) = (L, O, upd V s v)) → (v = 0 → jgS A B (h.2 9) (h.1 10) s (L, O, V) = (jnL L (A s) (B s), jnO L O (A s) (B s) (h.2 9 s), upd V s v)) → R_ ia_k_X1_judge Z (62, [some (.ref 25), some (.ref 4), some (.int (nI s))], [.int v, .int (nI s), .ref 26], hJ h L O V) := by
      intro v hv1 hv2
      refine ia_walk (fun pc => Nat.beq pc 30) 50 (fun X hX => ?_)
      conv => whnf
      refine Exists.intro _ (And.intro (And.intro rfl (by omega)) ?_)
      conv => whnf
      refine Exists.intro _ (And.intro (And.intro rfl (by omega)) ?_)
      have ev : upd V s v s = v := by simp [upd]
      conv => whnf
      refine And.intro (fun c => ?_) (fun c => ?_)
      · have c0 : v = 0 := ev.symm.trans c
        conv => whnf
        refine Exists.intro _ (And.intro (And.intro rfl (by omega)) ?_)
        conv => whnf
        refine Exists.intro _ (And.intro (And.intro rfl (by omega)) ?_)
        conv => whnf
        refine Exists.intro _ (And.intro (And.intro rfl (by omega)) ?_)
        conv => whnf
        have hj := v_join (hJ h L O (upd V s v)) (A s) (B s) a2 b2 (h.2 9 s)
        rw [← hJ_put h L O V] at hj
        refine Exists.intro (_, _) (And.intro (ia_callE (r0 := none) (h0 := hJ h (jnL L (A s) (B s)) (jnO L O (A s) (B s) (h.2 9 s)) (upd V s v)) ?_) ?_)
        · obtain ⟨r, h2, g1, g2, g3⟩ := hj
          refine ⟨r, h2, ?_, g2, ?_⟩
          · rw [← a1, ← b1] at g1
            exact g1
          · rw [g3, hJ_put, hJ_G]
            rfl
        · conv => whnf
          rw [nI_1]
          refine hX _ (ih (s + 1) (by omega) (jnL L (A s) (B s), jnO L O (A s) (B s) (h.2 9 s), upd V s v) ?_)
          rw [jgR, ← ht, hv2 c0]
      · conv => whnf
        rw [nI_1]
        have e := hJ_put h L O V (upd V s v)
        refine hX _ (e ▸ ih (s + 1) (by omega) (L, O, upd V s v) ?_ : ia_Run _ _ _ _ (30, _, _, hsI (hJ h L O V) 26 (upd V s v)))
        rw [jgR, ← ht, hv1 (fun q => c (ev.trans q))]
    refine ia_walk (fun pc => Nat.beq pc 62) 50 (fun X hX => ?_)
    conv => whnf
    refine And.intro (fun c => ?_) (fun c => ?_)
    · conv => whnf
      refine Exists.intro _ (And.intro (And.intro rfl (by omega)) ?_)
      conv => whnf
      refine And.intro (fun c2 => ?_) (fun c2 => ?_)
      · have hw := v_weigh (hJ h L O V) s (A s) (B s) (by omega) a2 b2 a1 b1
        conv => whnf
        obtain ⟨v, ev, ec⟩ := ia_callN (f := Value.int) hw
        refine Exists.intro (_, _) (And.intro ec ?_)
        have ev : v = wgF L O (A s) (B s) (h.2 9 s) := ev
        have c2 : h.1 10 s = 0 := c2
        conv => whnf
        refine hX _ (tail v (fun q => ?_) (fun q => ?_))
        · unfold jgS
          rw [if_pos c2, if_neg (by rw [← ev]; exact q), ← ev]
        · unfold jgS
          rw [if_pos c2, if_pos (by rw [← ev]; exact q), q]
      · have c2 : ¬ h.1 10 s = 0 := c2
        conv => whnf
        refine hX _ (tail 4 (fun q => ?_) (fun q => absurd q (by decide)))
        unfold jgS
        rw [if_neg c2]
    · exact absurd (by show nI s < h.1 4 7; rw [hst]; exact nI_lt hlt (by omega)) c
/-- the first loop -/
theorem l_judge0 (h : ia_H) {Z : Option Value → ia_H → Prop} (hN : R_ ia_k_X1_judge Z (30, [some (.ref 25), some (.ref 4), some (.int 0)], [], hG h (jgL (h.1 27) 41) (jgO (h.2 28) 41))) : ∀ k g : Nat, g + k = 41 → R_ ia_k_X1_judge Z (2, [some (.ref 25), some (.ref 4), some (.int (nI g))], [], hG h (jgL (h.1 27) g) (jgO (h.2 28) g)) := by
  intro k
  induction k with
  | zero =>
    intro g hg
    rw [show g = 41 by omega]
    refine ia_walk (fun pc => Nat.beq pc 30) 50 (fun X hX => ?_)
    conv => whnf
    refine And.intro (fun c => ?_) (fun c => ?_)
    · exact absurd c (by decide)
    · conv => whnf
      exact hX _ (hN)
  | succ k ih =>
    intro g hg
    refine ia_walk (fun pc => Nat.beq pc 2) 50 (fun X hX => ?_)
    conv => whnf
    refine And.intro (fun c => ?_) (fun c => ?_)
    · conv => whnf
      refine Exists.intro _ (And.intro (And.intro rfl (by omega)) ?_)
      conv => whnf
      refine Exists.intro _ (And.intro (And.intro rfl (by omega)) ?_)
      conv => whnf
      rw [nI_1]
      have e : hsL (hsI (hG h (jgL (h.1 27) g) (jgO (h.2 28) g)) 27 (upd (jgL (h.1 27) g) g (nI g))) 28 (vp_updL (jgO (h.2 28) g) g 0) = hG h (jgL (h.1 27) (g + 1)) (jgO (h.2 28) (g + 1)) := by
        rw [jgL_s, jgO_s]
        unfold hG
        rw [hsIL, hsL_same, hsI_same]
      exact hX _ (e ▸ ih (g + 1) (by omega) : ia_Run _ _ _ _ (2, _, _, hsL (hsI (hG h (jgL (h.1 27) g) (jgO (h.2 28) g)) 27 (upd (jgL (h.1 27) g) g (nI g))) 28 (vp_updL (jgO (h.2 28) g) g 0)))
    · exact absurd ((nI_lt41 (by omega)).mpr (by omega)) c
/-- what judge makes of least, offset, verdict -/
def jgW (h : ia_H) (A B : Nat → Nat) (n : Nat) : jgT := jgR A B (h.2 9) (h.1 10) (jgL (h.1 27) 41, jgO (h.2 28) 41, h.1 26) n
theorem v_judge (h : ia_H) (n : Nat) (hn : n ≤ 120) (hst : h.1 4 7 = nI n) (A B : Nat → Nat) (hA : ∀ s, s < n → h.1 7 s = nI (A s) ∧ A s < 41) (hB : ∀ s, s < n → h.1 8 s = nI (B s) ∧ B s < 41) : V_ 2 [.ref 25, .ref 4] h (fun r h' => r = none ∧ h' = hJ h (jgW h A B n).1 (jgW h A B n).2.1 (jgW h A B n).2.2) := by
  refine ia_V_in ia_k_X1_judge [some (.ref 25), some (.ref 4), none] rfl rfl (Nat.le_of_ble_eq_true rfl) rfl ?_
  refine ia_walk (fun pc => Nat.beq pc 2) 50 (fun X hX => ?_)
  conv => whnf
  have e : hG h (jgL (h.1 27) 0) (jgO (h.2 28) 0) = h := by
    rw [jgL_0, jgO_0]
    unfold hG
    rw [hsI_eta, hsL_eta]
  have e2 : hJ h (jgL (h.1 27) 41) (jgO (h.2 28) 41) (h.1 26) = hG h (jgL (h.1 27) 41) (jgO (h.2 28) 41) := hsI_eta (hG h (jgL (h.1 27) 41) (jgO (h.2 28) 41)) 26
  have key := l_judge0 h (Z := fun r h' => r = none ∧ h' = hJ h (jgW h A B n).1 (jgW h A B n).2.1 (jgW h A B n).2.2) (by
    rw [← e2]
    exact l_judge h n hn hst A B hA hB _ ⟨rfl, rfl⟩ n 0 (by omega) (jgL (h.1 27) 41, jgO (h.2 28) 41, h.1 26) rfl) 41 0 rfl
  rw [e] at key
  exact hX _ key
