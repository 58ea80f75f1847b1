/-! The tape: feed and end -/
/-- the byte of a number at a shift -/
def byV (v : Int32) (sh : Int32) : Int32 := vp_nar .byte ((v >>> (sh &&& 31)).toInt8.toInt32)
/-- k bytes put at L -/
def apF (f : Nat → Int32) (L : Nat) (b : Nat → Int32) (k : Nat) : Nat → Int32 := fun j => if L ≤ j ∧ j < L + k then b (j - L) else f j
theorem apF_0 (f : Nat → Int32) (L : Nat) (b : Nat → Int32) : apF f L b 0 = f := by
  funext j
  exact if_neg (by omega)
theorem apF_s (f : Nat → Int32) (L : Nat) (b : Nat → Int32) (k : Nat) : upd (apF f L b k) (L + k) (b k) = apF f L b (k + 1) := by
  funext j
  simp only [upd, apF]
  by_cases e : j = L + k
  · rw [if_pos e, if_pos (by omega), show j - L = k by omega]
  · rw [if_neg e]
    by_cases c : L ≤ j ∧ j < L + k
    · rw [if_pos c, if_pos (by omega)]
    · rw [if_neg c, if_neg (by omega)]
def byA (v : Int32) (i : Nat) : Int32 := byV v (24 - 8 * nI i)
theorem sh8 : ∀ i, i < 4 → (24 : Int32) - 8 * nI i + (-8) = 24 - 8 * nI (i + 1) := by decide +kernel
theorem sh0 : ∀ i, i < 4 → ¬ ((24 : Int32) - 8 * nI i < 0) := by decide +kernel
def hT (h : ia_H) (L : Nat) (f : Nat → Int32) : ia_H := hsI (hsI h 3 f) 2 (upd (h.1 2) 1 (nI L))
theorem hT_put (h : ia_H) (L j : Nat) (f : Nat → Int32) (b : Int32) : ((ia_uI (ia_uI (hT h L f).1 3 j b) 2 1 ((ia_uI (hT h L f).1 3 j b) 2 1 + 1), (hT h L f).2) : ia_H) = hT h (L + 1) (upd f j b) := by
  refine Prod.ext (funext fun y => ?_) rfl
  have e : (ia_uI (hT h L f).1 3 j b) 2 1 = nI L := rfl
  rw [e, nI_1]
  by_cases h2 : y = 2
  · subst h2
    funext z
    show (if z = 1 then nI (L + 1) else if z = 1 then nI L else h.1 2 z) = (if z = 1 then nI (L + 1) else h.1 2 z)
    by_cases hz : z = 1
    · rw [if_pos hz, if_pos hz]
    · rw [if_neg hz, if_neg hz, if_neg hz]
  · by_cases h3 : y = 3
    · subst h3
      rfl
    · have e1 : (hT h (L + 1) (upd f j b)).1 y = h.1 y := by
        show (if y = 2 then _ else if y = 3 then _ else h.1 y) = h.1 y
        rw [if_neg h2, if_neg h3]
      rw [e1]
      show (if y = 2 then _ else if y = 3 then _ else if y = 2 then _ else if y = 3 then _ else h.1 y) = h.1 y
      rw [if_neg h2, if_neg h3, if_neg h2, if_neg h3]
theorem l_append (h : ia_H) (L : Nat) (hL : L + 4 ≤ 300) (v : Int32) {Z : Option Value → ia_H → Prop} (hZ : Z none (hT h (L + 4) (apF (h.1 3) L (byA v) 4))) : ∀ k i : Nat, i + k = 4 → R_ ia_k_X4_append Z (3, [some (.ref 2), some (.int v), some (.int (24 - 8 * nI i))], [], hT h (L + i) (apF (h.1 3) L (byA v) i)) := by
  intro k
  induction k with
  | zero =>
    intro i hi
    rw [show i = 4 by omega]
    refine ia_walk (fun pc => Nat.beq pc 3) 60 (fun X hX => ?_)
    conv => whnf
    refine And.intro (fun c => ?_) (fun c => ?_)
    · conv => whnf
      exact hZ
    · exact absurd (show (24 : Int32) - 8 * nI 4 < 0 by decide) c
  | succ k ih =>
    intro i hi
    have ih := ih (i + 1) (by omega)
    rw [← apF_s] at ih
    refine ia_walk (fun pc => Nat.beq pc 3) 60 (fun X hX => ?_)
    conv => whnf
    refine And.intro (fun c => ?_) (fun c => ?_)
    · exact absurd c (sh0 i (by omega))
    · conv => whnf
      refine And.intro (fun c2 => ?_) (fun c2 => ?_)
      · conv => whnf
        refine Exists.intro _ (And.intro (And.intro rfl (by omega)) ?_)
        conv => whnf
        refine hX _ ?_
        rw [sh8 i (by omega)]
        have e := hT_put h (L + i) (L + i) (apF (h.1 3) L (byA v) i) (byA v i)
        rw [show L + (i + 1) = L + i + 1 from rfl, ← e] at ih
        exact ih
      · exact absurd (show nI (L + i) < nI 300 from nI_lt (by omega) (by omega)) c2
theorem hT_e {h : ia_H} {L : Nat} (e : h.1 2 1 = nI L) : hT h L (h.1 3) = h := by
  unfold hT
  rw [hsI_eta]
  have : upd (h.1 2) 1 (nI L) = h.1 2 := by
    funext j
    simp only [upd]
    by_cases z : j = 1
    · rw [if_pos z, z, e]
    · rw [if_neg z]
  rw [this, hsI_eta]
theorem v_append (h : ia_H) (L : Nat) (e : h.1 2 1 = nI L) (hL : L + 4 ≤ 300) (v : Int32) : V_ 29 [.ref 2, .int v] h (fun r h' => r = none ∧ h' = hT h (L + 4) (apF (h.1 3) L (byA v) 4)) := by
  refine ia_V_in ia_k_X4_append [some (.ref 2), some (.int v), none] rfl rfl (Nat.le_of_ble_eq_true rfl) rfl ?_
  refine ia_walk (fun pc => Nat.beq pc 3) 60 (fun X hX => ?_)
  have l := l_append h L hL v (Z := fun r h' => r = none ∧ h' = hT h (L + 4) (apF (h.1 3) L (byA v) 4)) ⟨rfl, rfl⟩ 4 0 (by omega)
  have e0 : hT h (L + 0) (h.1 3) = h := hT_e e
  rw [apF_0, e0] at l
  conv => whnf
  exact hX _ (l)
/-- a heap like another but for the tapes -/
def frT (h H : ia_H) : Prop := (∀ y, y ≠ 2 → y ≠ 3 → y ≠ 52 → y ≠ 53 → H.1 y = h.1 y) ∧ (∀ j, j ≠ 1 → H.1 2 j = h.1 2 j) ∧ (∀ j, j ≠ 1 → H.1 52 j = h.1 52 j) ∧ H.2 = h.2
/-- a byte -/
def byR (x : Int32) : Prop := -128 ≤ x.toInt ∧ x.toInt ≤ 127
theorem byR_i8 (x : Int8) : byR x.toInt32 := by
  unfold byR
  rw [Int8.toInt_toInt32]
  exact ⟨Int8.le_toInt x, Int8.toInt_le x⟩
theorem byR_nar (x : Int32) : byR (vp_nar .byte x) := byR_i8 x.toInt8
/-- class and reference have the same tape -/
def tpOk (h : ia_H) (L : Nat) : Prop := L ≤ 300 ∧ h.1 2 1 = nI L ∧ h.1 52 1 = nI L ∧ ∀ j, j < L → h.1 3 j = h.1 53 j ∧ byR (h.1 3 j)
theorem hT_2 (h : ia_H) (L L2 : Nat) (f g : Nat → Int32) : hT (hT h L f) L2 g = hT h L2 g := by
  refine Prod.ext (funext fun y => ?_) rfl
  show (if y = 2 then upd (upd (h.1 2) 1 (nI L)) 1 (nI L2) else if y = 3 then g else if y = 2 then _ else if y = 3 then f else h.1 y) = (if y = 2 then upd (h.1 2) 1 (nI L2) else if y = 3 then g else h.1 y)
  by_cases h2 : y = 2
  · rw [if_pos h2, if_pos h2, upd_upd]
  · by_cases h3 : y = 3
    · rw [if_neg h2, if_pos h3, if_neg h2, if_pos h3]
    · rw [if_neg h2, if_neg h3, if_neg h2, if_neg h3, if_neg h2, if_neg h3]
def fdV (a b c d e : Int32) (k : Nat) : Int32 := if k < 4 then a else if k < 8 then b else if k < 12 then c else if k < 16 then d else e
def fdB (a b c d e : Int32) (k : Nat) : Int32 := byA (fdV a b c d e k) (k % 4)
theorem v_feed1 (h : ia_H) (L : Nat) (e : h.1 2 1 = nI L) (hL : L + 20 ≤ 300) (a b c d f : Int32) : V_ 63 [.ref 0, .int a, .int b, .int c, .int d, .int f] h (fun r h' => r = some (.int (nI (L + 20))) ∧ ∃ g, (∀ j, j < L + 20 → g j = apF (h.1 3) L (fdB a b c d f) 20 j) ∧ h' = hT h (L + 20) g) := by
  have a1 := v_append h L e (by omega) a
  have a2 := v_append (hT h (L + 4) (apF (h.1 3) L (byA a) 4)) (L + 4) rfl (by omega) b
  rw [hT_2] at a2
  have a3 := v_append (hT h (L + 4 + 4) (apF (apF (h.1 3) L (byA a) 4) (L + 4) (byA b) 4)) (L + 4 + 4) rfl (by omega) c
  rw [hT_2] at a3
  have a4 := v_append (hT h (L + 4 + 4 + 4) (apF (apF (apF (h.1 3) L (byA a) 4) (L + 4) (byA b) 4) (L + 4 + 4) (byA c) 4)) (L + 4 + 4 + 4) rfl (by omega) d
  rw [hT_2] at a4
  have a5 := v_append (hT h (L + 4 + 4 + 4 + 4) (apF (apF (apF (apF (h.1 3) L (byA a) 4) (L + 4) (byA b) 4) (L + 4 + 4) (byA c) 4) (L + 4 + 4 + 4) (byA d) 4)) (L + 4 + 4 + 4 + 4) rfl (by omega) f
  rw [hT_2] at a5
  refine ia_V_in ia_k_X7_feed [some (.ref 0), some (.int a), some (.int b), some (.int c), some (.int d), some (.int f), none] rfl rfl (Nat.le_of_ble_eq_true rfl) rfl ?_
  refine ia_walk (fun _ => false) 60 (fun X hX => ?_)
  conv => whnf
  refine And.intro (fun c0 => ?_) (fun c0 => ?_)
  · exact absurd (show (300 : Int32) < h.1 2 1 + 20 from c0) (by rw [e]; rw [show nI L + 20 = nI (L + 20) from nI_add L 20]; exact nI_nlt (a := 300) (by omega) (by omega))
  · conv => whnf
    refine Exists.intro (_, _) (And.intro (ia_callE (a1)) ?_)
    conv => whnf
    refine Exists.intro (_, _) (And.intro (ia_callE (a2)) ?_)
    conv => whnf
    refine Exists.intro (_, _) (And.intro (ia_callE (a3)) ?_)
    conv => whnf
    refine Exists.intro (_, _) (And.intro (ia_callE (a4)) ?_)
    conv => whnf
    refine Exists.intro (_, _) (And.intro (ia_callE (a5)) ?_)
    conv => whnf
    refine ⟨rfl, _, fun j hj => ?_, rfl⟩
    show apF (apF (apF (apF (apF (h.1 3) L (byA a) 4) (L + 4) (byA b) 4) (L + 4 + 4) (byA c) 4) (L + 4 + 4 + 4) (byA d) 4) (L + 4 + 4 + 4 + 4) (byA f) 4 j = _
    simp only [apF]
    by_cases h0 : j < L
    · rw [if_neg (by omega), if_neg (by omega), if_neg (by omega), if_neg (by omega), if_neg (by omega), if_neg (by omega)]
    · rw [if_pos (show L ≤ j ∧ j < L + 20 by omega)]
      unfold fdB fdV
      by_cases c1 : j - L < 4
      · rw [if_neg (by omega), if_neg (by omega), if_neg (by omega), if_neg (by omega), if_pos (by omega), if_pos c1, Nat.mod_eq_of_lt c1]
      · by_cases c2 : j - L < 8
        · rw [if_neg (by omega), if_neg (by omega), if_neg (by omega), if_pos (by omega), if_neg c1, if_pos c2]
          congr 1; omega
        · by_cases c3 : j - L < 12
          · rw [if_neg (by omega), if_neg (by omega), if_pos (by omega), if_neg c1, if_neg c2, if_pos c3]
            congr 1; omega
          · by_cases c4 : j - L < 16
            · rw [if_neg (by omega), if_pos (by omega), if_neg c1, if_neg c2, if_neg c3, if_pos c4]
              congr 1; omega
            · rw [if_pos (by omega), if_neg c1, if_neg c2, if_neg c3, if_neg c4]
              congr 1; omega
theorem rm4 : ∀ k, k < 20 → (24 : Int32) - 8 * (nI k - nI k / 4 * 4) = 24 - 8 * nI (k % 4) := by decide +kernel
theorem l_mfeed (h : ia_H) (L : Nat) (e : h.1 52 1 = nI L) (hL : L + 20 ≤ 300) (a b c d f : Int32) {Z : Option Value → ia_H → Prop} (hZ : Z (some (.int (nI (L + 20)))) (hsI (hsI h 53 (apF (h.1 53) L (fdB a b c d f) 20)) 52 (upd (h.1 52) 1 (nI (L + 20))))) : ∀ (k i : Nat) (w : Option Value), i + k = 20 → R_ ia_k_X8_feed Z (15, [some (.ref 52), some (.int a), some (.int b), some (.int c), some (.int d), some (.int f), some (.int (nI i)), w], [], hsI h 53 (apF (h.1 53) L (fdB a b c d f) i)) := by
  intro k
  induction k with
  | zero =>
    intro i w hi
    rw [show i = 20 by omega]
    refine ia_walk (fun pc => Nat.beq pc 15) 60 (fun X hX => ?_)
    conv => whnf
    refine And.intro (fun c0 => ?_) (fun c0 => ?_)
    · exact absurd (show nI 20 < 20 from c0) (by decide)
    · conv => whnf
      have e2 : h.1 52 1 + 20 = nI (L + 20) := by rw [e]; exact nI_add L 20
      rw [← e2] at hZ
      exact hZ
  | succ k ih =>
    intro i w hi
    have hlast : ∀ v : Int32, v = fdV a b c d f i → R_ ia_k_X8_feed Z (70, [some (.ref 52), some (.int a), some (.int b), some (.int c), some (.int d), some (.int f), some (.int (nI i)), some (.int v)], [], hsI h 53 (apF (h.1 53) L (fdB a b c d f) i)) := by
      intro v hv
      have ih := ih (i + 1) (some (.int v)) (by omega)
      rw [← apF_s, ← hsI_same h 53 (apF (h.1 53) L (fdB a b c d f) i)] at ih
      refine ia_walk (fun pc => Nat.beq pc 15) 60 (fun X hX => ?_)
      conv => whnf
      refine Exists.intro (show ¬ (4 : Int32) = 0 by decide) ?_
      conv => whnf
      refine Exists.intro (L + i) (And.intro (And.intro ((show h.1 52 1 + nI i = nI (L + i) by rw [e]; exact nI_add L i)) (by omega)) ?_)
      conv => whnf
      rw [nI_1]
      have ev : fdB a b c d f i = byV v (24 - 8 * (nI i - nI i / 4 * 4)) := by
        unfold fdB byA
        rw [← hv, rm4 i (by omega)]
      rw [ev] at ih
      exact hX _ ih
    refine ia_walk (fun pc => Nat.beq pc 70) 60 (fun X hX => ?_)
    conv => whnf
    refine And.intro (fun c0 => ?_) (fun c0 => ?_)
    · conv => whnf
      refine And.intro (fun c1 => ?_) (fun c1 => ?_)
      · have := (nI_ltI (b := 4) (by omega) (by omega)).mp c1
        conv => whnf
        exact hX _ (hlast _ (by unfold fdV; rw [if_pos this]))
      · have h1 : ¬ i < 4 := fun q => c1 (nI_lt (b := 4) q (by omega))
        conv => whnf
        refine And.intro (fun c2 => ?_) (fun c2 => ?_)
        · have := (nI_ltI (b := 8) (by omega) (by omega)).mp c2
          conv => whnf
          exact hX _ (hlast _ (by unfold fdV; rw [if_neg h1, if_pos this]))
        · have h2 : ¬ i < 8 := fun q => c2 (nI_lt (b := 8) q (by omega))
          conv => whnf
          refine And.intro (fun c3 => ?_) (fun c3 => ?_)
          · have := (nI_ltI (b := 12) (by omega) (by omega)).mp c3
            conv => whnf
            exact hX _ (hlast _ (by unfold fdV; rw [if_neg h1, if_neg h2, if_pos this]))
          · have h3 : ¬ i < 12 := fun q => c3 (nI_lt (b := 12) q (by omega))
            conv => whnf
            refine And.intro (fun c4 => ?_) (fun c4 => ?_)
            · have := (nI_ltI (b := 16) (by omega) (by omega)).mp c4
              conv => whnf
              exact hX _ (hlast _ (by unfold fdV; rw [if_neg h1, if_neg h2, if_neg h3, if_pos this]))
            · have h4 : ¬ i < 16 := fun q => c4 (nI_lt (b := 16) q (by omega))
              conv => whnf
              exact hX _ (hlast _ (by unfold fdV; rw [if_neg h1, if_neg h2, if_neg h3, if_neg h4]))
    · exact absurd (nI_lt (a := i) (b := 20) (by omega) (by omega)) c0
theorem q_feed {h : ia_H} {L : Nat} (ht : tpOk h L) (a b c d f : Int32) : V_ 63 [.ref 0, .int a, .int b, .int c, .int d, .int f] h (fun r h1 => V_ 98 [.ref 52, .int a, .int b, .int c, .int d, .int f] h1 (fun r2 h2 => r2 = r ∧ frT h h2 ∧ ∃ L2, tpOk h2 L2)) := by
  obtain ⟨hL, e1, e2, hb⟩ := ht
  by_cases hc : L + 20 ≤ 300
  · obtain ⟨r, h1, ev, z1, g, z2, z3⟩ := v_feed1 h L e1 hc a b c d f
    subst z1 z3
    refine ⟨_, _, ev, ?_⟩
    have l := l_mfeed (hT h (L + 20) g) L e2 hc a b c d f (Z := fun r2 h2 => r2 = some (.int (nI (L + 20))) ∧ frT h h2 ∧ ∃ L2, tpOk h2 L2) (by
      refine ⟨rfl, ⟨fun y h2 h3 h52 h53 => ?_, fun j hj => ?_, fun j hj => ?_, rfl⟩, L + 20, hc, rfl, rfl, fun j hj => ?_⟩
      · show (if y = 52 then _ else if y = 53 then _ else if y = 2 then _ else if y = 3 then g else h.1 y) = h.1 y
        rw [if_neg h52, if_neg h53, if_neg h2, if_neg h3]
      · exact if_neg hj
      · exact if_neg hj
      · show g j = apF (h.1 53) L (fdB a b c d f) 20 j ∧ byR (g j)
        rw [z2 j hj]
        simp only [apF]
        by_cases q : L ≤ j ∧ j < L + 20
        · rw [if_pos q, if_pos q]
          exact ⟨rfl, by unfold fdB byA byV; exact byR_nar _⟩
        · rw [if_neg q, if_neg q]; exact hb j (by omega)) 20 0 none (by omega)
    rw [apF_0, hsI_eta] at l
    refine ia_V_in ia_k_X8_feed [some (.ref 52), some (.int a), some (.int b), some (.int c), some (.int d), some (.int f), none, none] rfl rfl (Nat.le_of_ble_eq_true rfl) rfl ?_
    refine ia_walk (fun pc => Nat.beq pc 15) 60 (fun X hX => ?_)
    conv => whnf
    refine And.intro (fun c0 => ?_) (fun c0 => ?_)
    · exact absurd (show (280 : Int32) < h.1 52 1 from c0) (by rw [e2]; exact nI_nlt (a := 280) (by omega) (by omega))
    · conv => whnf
      exact hX _ (l)
  · have m1 : V_ 63 [.ref 0, .int a, .int b, .int c, .int d, .int f] h (Z_ (.int (-1)) h) := by
      refine ia_V_in ia_k_X7_feed [some (.ref 0), some (.int a), some (.int b), some (.int c), some (.int d), some (.int f), none] rfl rfl (Nat.le_of_ble_eq_true rfl) rfl ?_
      refine ia_walk (fun pc => Nat.beq pc 25) 60 (fun X hX => ?_)
      conv => whnf
      refine And.intro (fun c0 => ?_) (fun c0 => ?_)
      · conv => whnf
        exact ⟨rfl, rfl⟩
      · exact absurd (show (300 : Int32) < h.1 2 1 + 20 by rw [e1]; rw [show nI L + 20 = nI (L + 20) from nI_add L 20]; exact nI_lt (a := 300) (by omega) (by omega)) c0
    have m2 : V_ 98 [.ref 52, .int a, .int b, .int c, .int d, .int f] h (Z_ (.int (-1)) h) := by
      refine ia_V_in ia_k_X8_feed [some (.ref 52), some (.int a), some (.int b), some (.int c), some (.int d), some (.int f), none, none] rfl rfl (Nat.le_of_ble_eq_true rfl) rfl ?_
      refine ia_walk (fun pc => Nat.beq pc 12) 60 (fun X hX => ?_)
      conv => whnf
      refine And.intro (fun c0 => ?_) (fun c0 => ?_)
      · conv => whnf
        exact ⟨rfl, rfl⟩
      · exact absurd (show (280 : Int32) < h.1 52 1 by rw [e2]; exact nI_lt (a := 280) (by omega) (by omega)) c0
    obtain ⟨r, h1, ev, q1, q2⟩ := m1
    obtain ⟨r', h1', ev', q1', q2'⟩ := m2
    subst q1 q2 q1' q2'
    exact ⟨_, _, ev, _, _, ev', rfl, ⟨fun _ _ _ _ _ => rfl, fun _ _ => rfl, fun _ _ => rfl, rfl⟩, L, hL, e1, e2, hb⟩
theorem q_end {h : ia_H} {L : Nat} (ht : tpOk h L) (x : Int32) : V_ 64 [.ref 0, .int x] h (fun r h1 => V_ 99 [.ref 52, .int x] h1 (fun r2 h2 => r2 = r ∧ frT h h2 ∧ ∃ L2, tpOk h2 L2)) := by
  obtain ⟨hL, e1, e2, hb⟩ := ht
  have eL : (nI L).toInt64.toInt = L := by rw [Int32.toInt_toInt64]; exact nI_toInt (by omega)
  rcases bad_or x (show L + 1 < 2 ^ 31 by omega) with q | ⟨j, hj, rfl⟩
  · have m1 : V_ 64 [.ref 0, .int x] h (Z_ (.int (-1)) h) := by
      refine ia_V_in ia_k_X7_end [some (.ref 0), some (.int x)] rfl rfl (Nat.le_of_ble_eq_true rfl) rfl ?_
      refine ia_walk (fun pc => Nat.beq pc 20) 60 (fun X hX => ?_)
      conv => whnf
      refine And.intro (fun c0 => ?_) (fun c0 => ?_)
      · conv => whnf
        exact ⟨rfl, rfl⟩
      · conv => whnf
        refine And.intro (fun c1 => ?_) (fun c1 => ?_)
        · conv => whnf
          exact ⟨rfl, rfl⟩
        · have c1 : ¬ h.1 2 1 < x := c1
          rw [e1] at c1
          rcases q with q | q
          · exact absurd q c0
          · exact absurd (Int32.lt_of_lt_of_le (nI_lt (Nat.lt_succ_self L) (by omega)) q) c1
    have hin := m_isInB h x L (by omega) (nI L).toInt64 eL q
    rw [← e2] at hin
    have m2 : V_ 99 [.ref 52, .int x] h (Z_ (.int (-1)) h) := by
      refine ia_V_in ia_k_X8_end [some (.ref 52), some (.int x)] rfl rfl (Nat.le_of_ble_eq_true rfl) rfl ?_
      refine ia_walk (fun pc => Nat.beq pc 16) 60 (fun X hX => ?_)
      conv => whnf
      refine Exists.intro (_, _) (And.intro (ia_callE (hin)) ?_)
      conv => whnf
      refine And.intro (fun c0 => ?_) (fun c0 => ?_)
      · conv => whnf
        exact ⟨rfl, rfl⟩
      · exact absurd rfl c0
    obtain ⟨r, h1, ev, q1, q2⟩ := m1
    obtain ⟨r', h1', ev', q1', q2'⟩ := m2
    subst q1 q2 q1' q2'
    exact ⟨_, _, ev, _, _, ev', rfl, ⟨fun _ _ _ _ _ => rfl, fun _ _ => rfl, fun _ _ => rfl, rfl⟩, L, hL, e1, e2, hb⟩
  · have m1 : V_ 64 [.ref 0, .int (nI j)] h (fun r h' => r = some (.int (nI j)) ∧ h' = hsI h 2 (upd (h.1 2) 1 (nI j))) := by
      refine ia_V_in ia_k_X7_end [some (.ref 0), some (.int (nI j))] rfl rfl (Nat.le_of_ble_eq_true rfl) rfl ?_
      refine ia_walk (fun _ => false) 60 (fun X hX => ?_)
      conv => whnf
      refine And.intro (fun c0 => ?_) (fun c0 => ?_)
      · exact absurd c0 (nI_pos (by omega))
      · conv => whnf
        refine And.intro (fun c1 => ?_) (fun c1 => ?_)
        · exact absurd (show h.1 2 1 < nI j from c1) (by rw [e1]; exact nI_nlt (by omega) (by omega))
        · conv => whnf
          exact ⟨rfl, rfl⟩
    obtain ⟨r, h1, ev, q1, q2⟩ := m1
    subst q1 q2
    have hin := m_isInN (hsI h 2 (upd (h.1 2) 1 (nI j))) (nI j) L (by omega) (nI L).toInt64 eL ⟨j, by omega, rfl⟩
    rw [← e2] at hin
    refine ⟨_, _, ev, ?_⟩
    refine ia_V_in ia_k_X8_end [some (.ref 52), some (.int (nI j))] rfl rfl (Nat.le_of_ble_eq_true rfl) rfl ?_
    refine ia_walk (fun _ => false) 60 (fun X hX => ?_)
    conv => whnf
    refine Exists.intro (_, _) (And.intro (ia_callE (hin)) ?_)
    conv => whnf
    refine And.intro (fun c0 => ?_) (fun c0 => ?_)
    · exact absurd (show (1 : Int32) = 0 from c0) (by decide)
    · conv => whnf
      refine ⟨rfl, ⟨fun y h2 h3 h52 h53 => ?_, fun i hi => ?_, fun i hi => ?_, rfl⟩, j, by omega, rfl, rfl, fun i hi => hb i (by omega)⟩
      · show (if y = 52 then _ else if y = 2 then _ else h.1 y) = h.1 y
        rw [if_neg h52, if_neg h2]
      · exact if_neg hi
      · exact if_neg hi
