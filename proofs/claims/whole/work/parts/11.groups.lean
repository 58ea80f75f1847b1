/-! The class's Groups: questions. L, O: least, offset -/
def gr_hi (L : Nat → Int32) (O : Nat → Int64) (x : Int32) : Nat → Int64
  | 0 => 0
  | n + 1 => if L n = x then (if O n < gr_hi L O x n then gr_hi L O x n else O n) else gr_hi L O x n
def gr_lo (L : Nat → Int32) (O : Nat → Int64) (x : Int32) : Nat → Int64
  | 0 => 0
  | n + 1 => if L n = x then (if O n < gr_lo L O x n then O n else gr_lo L O x n) else gr_lo L O x n
theorem l_highest (h : ia_H) (x : Int32) {Z : Option Value → ia_H → Prop} (hZ : Z (some (.long (gr_hi (h.1 27) (h.2 28) x 41))) h) : ∀ k g : Nat, g + k = 41 → R_ ia_k_X1_highest Z (5, [some (.ref 25), some (.int x), some (.long (gr_hi (h.1 27) (h.2 28) x g)), none, some (.int (nI g))], [], h) := by
  intro k
  induction k with
  | zero =>
    intro g hg
    rw [show g = 41 by omega]
    refine ia_walk (fun pc => Nat.beq pc 5) 50 (fun X hX => ?_)
    conv => whnf
    refine And.intro (fun c => ?_) (fun c => ?_)
    · exact absurd c (by decide)
    · conv => whnf
      exact hZ
  | succ k ih =>
    intro g hg
    refine ia_walk (fun pc => Nat.beq pc 5) 50 (fun X hX => ?_)
    conv => whnf
    refine And.intro (fun c => ?_) (fun c => ?_)
    · conv => whnf
      refine Exists.intro _ (And.intro (And.intro rfl (by omega)) ?_)
      conv => whnf
      refine And.intro (fun c2 => ?_) (fun c2 => ?_)
      · conv => whnf
        refine Exists.intro _ (And.intro (And.intro rfl (by omega)) ?_)
        conv => whnf
        rw [nI_1]
        have e : gr_hi (h.1 27) (h.2 28) x (g + 1) = if h.2 28 g < gr_hi (h.1 27) (h.2 28) x g then gr_hi (h.1 27) (h.2 28) x g else h.2 28 g := by rw [gr_hi, if_pos c2]
        rw [← e]
        exact hX _ (ih (g + 1) (by omega))
      · conv => whnf
        rw [nI_1]
        have e : gr_hi (h.1 27) (h.2 28) x (g + 1) = gr_hi (h.1 27) (h.2 28) x g := by rw [gr_hi, if_neg c2]
        rw [← e]
        exact hX _ (ih (g + 1) (by omega))
    · exact absurd ((nI_lt41 (by omega)).mpr (by omega)) c
theorem v_highest (h : ia_H) (x : Int32) : V_ 6 [.ref 25, .int x] h (Z_ (.long (gr_hi (h.1 27) (h.2 28) x 41)) h) := by
  refine ia_V_in ia_k_X1_highest [some (.ref 25), some (.int x), none, none, none] rfl rfl (Nat.le_of_ble_eq_true rfl) rfl ?_
  refine ia_walk (fun pc => Nat.beq pc 5) 50 (fun X hX => ?_)
  conv => whnf
  exact hX _ (l_highest h x ⟨rfl, rfl⟩ 41 0 rfl)
theorem l_lowest (h : ia_H) (x : Int32) {Z : Option Value → ia_H → Prop} (hZ : Z (some (.long (gr_lo (h.1 27) (h.2 28) x 41))) h) : ∀ k g : Nat, g + k = 41 → R_ ia_k_X1_lowest Z (5, [some (.ref 25), some (.int x), some (.long (gr_lo (h.1 27) (h.2 28) x g)), none, some (.int (nI g))], [], h) := by
  intro k
  induction k with
  | zero =>
    intro g hg
    rw [show g = 41 by omega]
    refine ia_walk (fun pc => Nat.beq pc 5) 50 (fun X hX => ?_)
    conv => whnf
    refine And.intro (fun c => ?_) (fun c => ?_)
    · exact absurd c (by decide)
    · conv => whnf
      exact hZ
  | succ k ih =>
    intro g hg
    refine ia_walk (fun pc => Nat.beq pc 5) 50 (fun X hX => ?_)
    conv => whnf
    refine And.intro (fun c => ?_) (fun c => ?_)
    · conv => whnf
      refine Exists.intro _ (And.intro (And.intro rfl (by omega)) ?_)
      conv => whnf
      refine And.intro (fun c2 => ?_) (fun c2 => ?_)
      · conv => whnf
        refine Exists.intro _ (And.intro (And.intro rfl (by omega)) ?_)
        conv => whnf
        rw [nI_1]
        have e : gr_lo (h.1 27) (h.2 28) x (g + 1) = if h.2 28 g < gr_lo (h.1 27) (h.2 28) x g then h.2 28 g else gr_lo (h.1 27) (h.2 28) x g := by rw [gr_lo, if_pos c2]
        rw [← e]
        exact hX _ (ih (g + 1) (by omega))
      · conv => whnf
        rw [nI_1]
        have e : gr_lo (h.1 27) (h.2 28) x (g + 1) = gr_lo (h.1 27) (h.2 28) x g := by rw [gr_lo, if_neg c2]
        rw [← e]
        exact hX _ (ih (g + 1) (by omega))
    · exact absurd ((nI_lt41 (by omega)).mpr (by omega)) c
theorem v_lowest (h : ia_H) (x : Int32) : V_ 7 [.ref 25, .int x] h (Z_ (.long (gr_lo (h.1 27) (h.2 28) x 41)) h) := by
  refine ia_V_in ia_k_X1_lowest [some (.ref 25), some (.int x), none, none, none] rfl rfl (Nat.le_of_ble_eq_true rfl) rfl ?_
  refine ia_walk (fun pc => Nat.beq pc 5) 50 (fun X hX => ?_)
  conv => whnf
  exact hX _ (l_lowest h x ⟨rfl, rfl⟩ 41 0 rfl)
theorem l_sizeOf (h : ia_H) (x : Int32) {Z : Option Value → ia_H → Prop} (hZ : Z (some (.int (nI (ct (fun j => decide (h.1 27 j = x)) 41)))) h) : ∀ k g : Nat, g + k = 41 → R_ ia_k_X1_sizeOf Z (4, [some (.ref 25), some (.int x), some (.int (nI (ct (fun j => decide (h.1 27 j = x)) g))), some (.int (nI g))], [], h) := by
  intro k
  induction k with
  | zero =>
    intro g hg
    rw [show g = 41 by omega]
    refine ia_walk (fun pc => Nat.beq pc 4) 50 (fun X hX => ?_)
    conv => whnf
    refine And.intro (fun c => ?_) (fun c => ?_)
    · exact absurd c (by decide)
    · conv => whnf
      exact hZ
  | succ k ih =>
    intro g hg
    refine ia_walk (fun pc => Nat.beq pc 4) 50 (fun X hX => ?_)
    conv => whnf
    refine And.intro (fun c => ?_) (fun c => ?_)
    · conv => whnf
      refine Exists.intro _ (And.intro (And.intro rfl (by omega)) ?_)
      conv => whnf
      refine And.intro (fun c2 => ?_) (fun c2 => ?_)
      · conv => whnf
        rw [nI_1, nI_1, ← ct_t (p := fun j => decide (h.1 27 j = x)) (decide_eq_true c2)]
        exact hX _ (ih (g + 1) (by omega))
      · conv => whnf
        rw [nI_1, ← ct_f (p := fun j => decide (h.1 27 j = x)) (decide_eq_false c2)]
        exact hX _ (ih (g + 1) (by omega))
    · exact absurd ((nI_lt41 (by omega)).mpr (by omega)) c
theorem v_sizeOf (h : ia_H) (x : Int32) : V_ 8 [.ref 25, .int x] h (Z_ (.int (nI (ct (fun j => decide (h.1 27 j = x)) 41))) h) := by
  refine ia_V_in ia_k_X1_sizeOf [some (.ref 25), some (.int x), none, none] rfl rfl (Nat.le_of_ble_eq_true rfl) rfl ?_
  refine ia_walk (fun pc => Nat.beq pc 4) 50 (fun X hX => ?_)
  conv => whnf
  exact hX _ (l_sizeOf h x ⟨rfl, rfl⟩ 41 0 rfl)
/-- j is ahead of a in the order of a's group -/
def gr_ah (L : Nat → Int32) (O : Nat → Int64) (a j : Nat) : Bool := decide (L j = L a) && (decide (O j < O a) || (decide (O j = O a) && decide (j < a)))
theorem l_countAhead (h : ia_H) (a : Nat) (ha : a < 41) {Z : Option Value → ia_H → Prop} (hZ : Z (some (.int (nI (ct (gr_ah (h.1 27) (h.2 28) a) 41)))) h) : ∀ (k g : Nat) (w : Option Value), g + k = 41 → R_ ia_k_X1_countAhead Z (4, [some (.ref 25), some (.int (nI a)), some (.int (nI (ct (gr_ah (h.1 27) (h.2 28) a) g))), some (.int (nI g)), w], [], h) := by
  intro k
  induction k with
  | zero =>
    intro g w hg
    rw [show g = 41 by omega]
    refine ia_walk (fun pc => Nat.beq pc 4) 50 (fun X hX => ?_)
    conv => whnf
    refine And.intro (fun c => ?_) (fun c => ?_)
    · exact absurd c (by decide)
    · conv => whnf
      exact hZ
  | succ k ih =>
    intro g w hg
    have tail : ∀ b : Bool, b = (decide (h.2 28 g < h.2 28 a) || (decide (h.2 28 g = h.2 28 a) && decide (g < a))) → R_ ia_k_X1_countAhead Z (52, [some (.ref 25), some (.int (nI a)), some (.int (nI (ct (gr_ah (h.1 27) (h.2 28) a) g))), some (.int (nI g)), w], [.int (bif b then 1 else 0)], h) := by
      intro b hb
      refine ia_walk (fun pc => Nat.beq pc 4) 50 (fun X hX => ?_)
      conv => whnf
      refine Exists.intro _ (And.intro (And.intro rfl (by omega)) ?_)
      conv => whnf
      refine Exists.intro _ (And.intro (And.intro rfl (by omega)) ?_)
      conv => whnf
      refine And.intro (fun c1 => ?_) (fun c1 => ?_)
      · conv => whnf
        refine And.intro (fun c2 => ?_) (fun c2 => ?_)
        · conv => whnf
          have e : gr_ah (h.1 27) (h.2 28) a g = false := by
            cases b with
            | true => exact absurd c2 (by decide)
            | false => simp only [gr_ah, ← hb, Bool.and_false]
          rw [nI_1, ← ct_f e]
          exact hX _ (ih (g + 1) _ (by omega))
        · conv => whnf
          have e : gr_ah (h.1 27) (h.2 28) a g = true := by
            cases b with
            | false => exact absurd rfl c2
            | true => simp only [gr_ah, ← hb, Bool.and_true]; exact decide_eq_true c1
          rw [nI_1, nI_1, ← ct_t e]
          exact hX _ (ih (g + 1) _ (by omega))
      · conv => whnf
        have e : gr_ah (h.1 27) (h.2 28) a g = false := by simp only [gr_ah, decide_eq_false c1, Bool.false_and]
        rw [nI_1, ← ct_f e]
        exact hX _ (ih (g + 1) _ (by omega))
    refine ia_walk (fun pc => Nat.beq pc 52) 50 (fun X hX => ?_)
    conv => whnf
    refine And.intro (fun c => ?_) (fun c => ?_)
    · conv => whnf
      refine Exists.intro _ (And.intro (And.intro rfl (by omega)) ?_)
      conv => whnf
      refine Exists.intro _ (And.intro (And.intro rfl (by omega)) ?_)
      conv => whnf
      refine And.intro (fun c1 => ?_) (fun c1 => ?_)
      · conv => whnf
        exact hX _ (tail true (by rw [decide_eq_true ((lg_cmp_lt _ _).mp c1)]; rfl))
      · conv => whnf
        refine Exists.intro _ (And.intro (And.intro rfl (by omega)) ?_)
        conv => whnf
        refine Exists.intro _ (And.intro (And.intro rfl (by omega)) ?_)
        have n1 : ¬ h.2 28 g < h.2 28 a := fun q => c1 ((lg_cmp_lt _ _).mpr q)
        conv => whnf
        refine And.intro (fun c2 => ?_) (fun c2 => ?_)
        · conv => whnf
          refine And.intro (fun c3 => ?_) (fun c3 => ?_)
          · conv => whnf
            exact hX _ (tail true (by rw [decide_eq_true ((lg_cmp_eq _ _).mp c2), decide_eq_true ((nI_ltI (by omega) (by omega)).mp c3)]; simp))
          · conv => whnf
            exact hX _ (tail false (by rw [decide_eq_false n1, decide_eq_false (fun q => c3 ((nI_ltI (by omega) (by omega)).mpr q))]; simp))
        · conv => whnf
          exact hX _ (tail false (by rw [decide_eq_false n1, decide_eq_false (fun q => c2 ((lg_cmp_eq _ _).mpr q))]; simp))
    · exact absurd ((nI_lt41 (by omega)).mpr (by omega)) c
theorem v_countAhead (h : ia_H) (a : Nat) (ha : a < 41) : V_ 9 [.ref 25, .int (nI a)] h (Z_ (.int (nI (ct (gr_ah (h.1 27) (h.2 28) a) 41))) h) := by
  refine ia_V_in ia_k_X1_countAhead [some (.ref 25), some (.int (nI a)), none, none, none] rfl rfl (Nat.le_of_ble_eq_true rfl) rfl ?_
  refine ia_walk (fun pc => Nat.beq pc 4) 50 (fun X hX => ?_)
  conv => whnf
  exact hX _ (l_countAhead h a ha ⟨rfl, rfl⟩ 41 0 _ rfl)
/-- twos below n: pairs j < g < n with p g j -/
def ct2 (p : Nat → Nat → Bool) : Nat → Nat
  | 0 => 0
  | n + 1 => ct2 p n + ct (p n) n
theorem ct2_le (p : Nat → Nat → Bool) : ∀ n, ct2 p n ≤ n * n
  | 0 => Nat.le_refl 0
  | n + 1 => by
    have h1 := ct2_le p n
    have h2 := ct_le (p n) n
    simp only [ct2]
    have : (n + 1) * (n + 1) = n * n + n + n + 1 := by rw [Nat.add_mul, Nat.mul_add]; omega
    omega
theorem l_countKnownTwos (h : ia_H) {Z : Option Value → ia_H → Prop} (hZ : Z (some (.int (nI (ct2 (fun g j => decide (h.1 27 g = h.1 27 j)) 41)))) h) : ∀ (k g : Nat) (w : Option Value), g + k = 41 → R_ ia_k_X1_countKnownTwos Z (4, [some (.ref 25), some (.int (nI (ct2 (fun g j => decide (h.1 27 g = h.1 27 j)) g))), some (.int (nI g)), w], [], h) := by
  intro k
  induction k with
  | zero =>
    intro g w hg
    rw [show g = 41 by omega]
    refine ia_walk (fun pc => Nat.beq pc 4) 50 (fun X hX => ?_)
    conv => whnf
    refine And.intro (fun c => ?_) (fun c => ?_)
    · exact absurd c (by decide)
    · conv => whnf
      exact hZ
  | succ k ih =>
    intro g w hg
    have inner : ∀ (k2 j : Nat), j + k2 = g → R_ ia_k_X1_countKnownTwos Z (12, [some (.ref 25), some (.int (nI (ct2 (fun g j => decide (h.1 27 g = h.1 27 j)) g + ct (fun j => decide (h.1 27 g = h.1 27 j)) j))), some (.int (nI g)), some (.int (nI j))], [], h) := by
      intro k2
      induction k2 with
      | zero =>
        intro j hj
        rw [show j = g by omega]
        refine ia_walk (fun pc => Nat.beq pc 4) 50 (fun X hX => ?_)
        conv => whnf
        refine And.intro (fun c => ?_) (fun c => ?_)
        · exact absurd ((nI_ltI (by omega) (by omega)).mp c) (by omega)
        · conv => whnf
          rw [nI_1]
          exact hX _ (ih (g + 1) _ (by omega))
      | succ k2 ih2 =>
        intro j hj
        refine ia_walk (fun pc => Nat.beq pc 12) 50 (fun X hX => ?_)
        conv => whnf
        refine And.intro (fun c => ?_) (fun c => ?_)
        · conv => whnf
          refine Exists.intro _ (And.intro (And.intro rfl (by omega)) ?_)
          conv => whnf
          refine Exists.intro _ (And.intro (And.intro rfl (by omega)) ?_)
          conv => whnf
          refine And.intro (fun c2 => ?_) (fun c2 => ?_)
          · conv => whnf
            have e := ct_t (p := fun j => decide (h.1 27 g = h.1 27 j)) (n := j) (decide_eq_true c2)
            rw [nI_1, nI_1, Nat.add_assoc, ← e]
            exact hX _ (ih2 (j + 1) (by omega))
          · conv => whnf
            have e := ct_f (p := fun j => decide (h.1 27 g = h.1 27 j)) (n := j) (decide_eq_false c2)
            rw [nI_1, ← e]
            exact hX _ (ih2 (j + 1) (by omega))
        · exact absurd ((nI_ltI (by omega) (by omega)).mpr (by omega)) c
    refine ia_walk (fun pc => Nat.beq pc 12) 50 (fun X hX => ?_)
    conv => whnf
    refine And.intro (fun c => ?_) (fun c => ?_)
    · conv => whnf
      exact hX _ (inner g 0 (by omega))
    · exact absurd ((nI_lt41 (by omega)).mpr (by omega)) c
theorem v_countKnownTwos (h : ia_H) : V_ 12 [.ref 25] h (Z_ (.int (nI (ct2 (fun g j => decide (h.1 27 g = h.1 27 j)) 41))) h) := by
  refine ia_V_in ia_k_X1_countKnownTwos [some (.ref 25), none, none, none] rfl rfl (Nat.le_of_ble_eq_true rfl) rfl ?_
  refine ia_walk (fun pc => Nat.beq pc 4) 50 (fun X hX => ?_)
  conv => whnf
  exact hX _ (l_countKnownTwos h ⟨rfl, rfl⟩ 41 0 _ rfl)
/-- two gauges of a group that differ by m, as the class has it -/
def gr_tw (L : Nat → Int32) (O : Nat → Int64) (m : Int64) (g j : Nat) : Bool := decide (L g = L j) && decide ((if 0 < O g - O j then O g - O j else -(O g - O j)) = m)
theorem l_countTwos (h : ia_H) (m : Int64) {Z : Option Value → ia_H → Prop} (hZ : Z (some (.int (nI (ct2 (gr_tw (h.1 27) (h.2 28) m) 41)))) h) : ∀ (k g : Nat) (w : Option Value), g + k = 41 → R_ ia_k_X1_countTwos Z (5, [some (.ref 25), some (.long m), none, some (.int (nI (ct2 (gr_tw (h.1 27) (h.2 28) m) g))), some (.int (nI g)), w], [], h) := by
  intro k
  induction k with
  | zero =>
    intro g w hg
    rw [show g = 41 by omega]
    refine ia_walk (fun pc => Nat.beq pc 5) 50 (fun X hX => ?_)
    conv => whnf
    refine And.intro (fun c => ?_) (fun c => ?_)
    · exact absurd c (by decide)
    · conv => whnf
      exact hZ
  | succ k ih =>
    intro g w hg
    have inner : ∀ (k2 j : Nat), j + k2 = g → R_ ia_k_X1_countTwos Z (15, [some (.ref 25), some (.long m), none, some (.int (nI (ct2 (gr_tw (h.1 27) (h.2 28) m) g + ct (gr_tw (h.1 27) (h.2 28) m g) j))), some (.int (nI g)), some (.int (nI j))], [], h) := by
      intro k2
      induction k2 with
      | zero =>
        intro j hj
        rw [show j = g by omega]
        refine ia_walk (fun pc => Nat.beq pc 5) 50 (fun X hX => ?_)
        conv => whnf
        refine And.intro (fun c => ?_) (fun c => ?_)
        · exact absurd ((nI_ltI (by omega) (by omega)).mp c) (by omega)
        · conv => whnf
          rw [nI_1]
          exact hX _ (ih (g + 1) _ (by omega))
      | succ k2 ih2 =>
        intro j hj
        refine ia_walk (fun pc => Nat.beq pc 15) 50 (fun X hX => ?_)
        conv => whnf
        refine And.intro (fun c => ?_) (fun c => ?_)
        · conv => whnf
          refine Exists.intro _ (And.intro (And.intro rfl (by omega)) ?_)
          conv => whnf
          refine Exists.intro _ (And.intro (And.intro rfl (by omega)) ?_)
          conv => whnf
          refine And.intro (fun c2 => ?_) (fun c2 => ?_)
          · conv => whnf
            refine Exists.intro _ (And.intro (And.intro rfl (by omega)) ?_)
            conv => whnf
            refine Exists.intro _ (And.intro (And.intro rfl (by omega)) ?_)
            conv => whnf
            refine And.intro (fun c3 => ?_) (fun c3 => ?_)
            · conv => whnf
              have e := ct_t (p := gr_tw (h.1 27) (h.2 28) m g) (n := j) (by simp only [gr_tw, decide_eq_true c2, decide_eq_true ((lg_cmp_eq _ _).mp c3), Bool.and_true])
              rw [nI_1, nI_1, Nat.add_assoc, ← e]
              exact hX _ (ih2 (j + 1) (by omega))
            · conv => whnf
              have e := ct_f (p := gr_tw (h.1 27) (h.2 28) m g) (n := j) (by simp only [gr_tw, decide_eq_false (fun q => c3 ((lg_cmp_eq _ _).mpr q)), Bool.and_false])
              rw [nI_1, ← e]
              exact hX _ (ih2 (j + 1) (by omega))
          · conv => whnf
            have e := ct_f (p := gr_tw (h.1 27) (h.2 28) m g) (n := j) (by simp only [gr_tw, decide_eq_false c2, Bool.false_and])
            rw [nI_1, ← e]
            exact hX _ (ih2 (j + 1) (by omega))
        · exact absurd ((nI_ltI (by omega) (by omega)).mpr (by omega)) c
    refine ia_walk (fun pc => Nat.beq pc 15) 50 (fun X hX => ?_)
    conv => whnf
    refine And.intro (fun c => ?_) (fun c => ?_)
    · conv => whnf
      exact hX _ (inner g 0 (by omega))
    · exact absurd ((nI_lt41 (by omega)).mpr (by omega)) c
theorem v_countTwos (h : ia_H) (m : Int64) : V_ 11 [.ref 25, .long m] h (Z_ (.int (nI (ct2 (gr_tw (h.1 27) (h.2 28) m) 41))) h) := by
  refine ia_V_in ia_k_X1_countTwos [some (.ref 25), some (.long m), none, none, none, none] rfl rfl (Nat.le_of_ble_eq_true rfl) rfl ?_
  refine ia_walk (fun pc => Nat.beq pc 5) 50 (fun X hX => ?_)
  conv => whnf
  exact hX _ (l_countTwos h m ⟨rfl, rfl⟩ 41 0 _ rfl)
theorem l_countGroups (h : ia_H) (n : Nat) (hn : n ≤ 41) {Z : Option Value → ia_H → Prop} (hZ : Z (some (.int (nI (ct (fun j => decide (h.1 27 j = nI j)) n)))) h) : ∀ k g : Nat, g + k = n → R_ ia_k_X1_countGroups Z (4, [some (.ref 25), some (.int (nI n)), some (.int (nI (ct (fun j => decide (h.1 27 j = nI j)) g))), some (.int (nI g))], [], h) := by
  intro k
  induction k with
  | zero =>
    intro g hg
    rw [show g = n by omega]
    refine ia_walk (fun pc => Nat.beq pc 4) 50 (fun X hX => ?_)
    conv => whnf
    refine And.intro (fun c => ?_) (fun c => ?_)
    · exact absurd ((nI_ltI (by omega) (by omega)).mp c) (by omega)
    · conv => whnf
      exact hZ
  | succ k ih =>
    intro g hg
    refine ia_walk (fun pc => Nat.beq pc 4) 50 (fun X hX => ?_)
    conv => whnf
    refine And.intro (fun c => ?_) (fun c => ?_)
    · conv => whnf
      refine And.intro (fun c1 => ?_) (fun c1 => ?_)
      · conv => whnf
        refine Exists.intro _ (And.intro (And.intro rfl (by omega)) ?_)
        conv => whnf
        refine And.intro (fun c2 => ?_) (fun c2 => ?_)
        · conv => whnf
          rw [nI_1, nI_1, ← ct_t (p := fun j => decide (h.1 27 j = nI j)) (decide_eq_true c2)]
          exact hX _ (ih (g + 1) (by omega))
        · conv => whnf
          rw [nI_1, ← ct_f (p := fun j => decide (h.1 27 j = nI j)) (decide_eq_false c2)]
          exact hX _ (ih (g + 1) (by omega))
      · exact absurd ((nI_lt41 (by omega)).mpr (by omega)) c1
    · exact absurd ((nI_ltI (by omega) (by omega)).mpr (by omega)) c
theorem v_countGroups (h : ia_H) (n : Nat) (hn : n ≤ 41) : V_ 13 [.ref 25, .int (nI n)] h (Z_ (.int (nI (ct (fun j => decide (h.1 27 j = nI j)) n))) h) := by
  refine ia_V_in ia_k_X1_countGroups [some (.ref 25), some (.int (nI n)), none, none] rfl rfl (Nat.le_of_ble_eq_true rfl) rfl ?_
  refine ia_walk (fun pc => Nat.beq pc 4) 50 (fun X hX => ?_)
  conv => whnf
  exact hX _ (l_countGroups h n hn ⟨rfl, rfl⟩ n 0 (by omega))
theorem l_countOf (h : ia_H) (x : Int32) (n : Nat) (hn : n ≤ 120) {Z : Option Value → ia_H → Prop} (hZ : Z (some (.int (nI (ct (fun j => decide (h.1 26 j = x)) n)))) h) : ∀ k g : Nat, g + k = n → R_ ia_k_X1_countOf Z (5, [some (.ref 25), some (.int x), some (.int (nI n)), some (.int (nI (ct (fun j => decide (h.1 26 j = x)) g))), some (.int (nI g))], [], h) := by
  intro k
  induction k with
  | zero =>
    intro g hg
    rw [show g = n by omega]
    refine ia_walk (fun pc => Nat.beq pc 5) 50 (fun X hX => ?_)
    conv => whnf
    refine And.intro (fun c => ?_) (fun c => ?_)
    · exact absurd ((nI_ltI (by omega) (by omega)).mp c) (by omega)
    · conv => whnf
      exact hZ
  | succ k ih =>
    intro g hg
    refine ia_walk (fun pc => Nat.beq pc 5) 50 (fun X hX => ?_)
    conv => whnf
    refine And.intro (fun c => ?_) (fun c => ?_)
    · conv => whnf
      refine And.intro (fun c1 => ?_) (fun c1 => ?_)
      · conv => whnf
        refine Exists.intro _ (And.intro (And.intro rfl (by omega)) ?_)
        conv => whnf
        refine And.intro (fun c2 => ?_) (fun c2 => ?_)
        · conv => whnf
          rw [nI_1, nI_1, ← ct_t (p := fun j => decide (h.1 26 j = x)) (decide_eq_true c2)]
          exact hX _ (ih (g + 1) (by omega))
        · conv => whnf
          rw [nI_1, ← ct_f (p := fun j => decide (h.1 26 j = x)) (decide_eq_false c2)]
          exact hX _ (ih (g + 1) (by omega))
      · exact absurd ((nI_lt120 (by omega)).mpr (by omega)) c1
    · exact absurd ((nI_ltI (by omega) (by omega)).mpr (by omega)) c
theorem v_countOf (h : ia_H) (x : Int32) (n : Nat) (hn : n ≤ 120) : V_ 14 [.ref 25, .int x, .int (nI n)] h (Z_ (.int (nI (ct (fun j => decide (h.1 26 j = x)) n))) h) := by
  refine ia_V_in ia_k_X1_countOf [some (.ref 25), some (.int x), some (.int (nI n)), none, none] rfl rfl (Nat.le_of_ble_eq_true rfl) rfl ?_
  refine ia_walk (fun pc => Nat.beq pc 5) 50 (fun X hX => ?_)
  conv => whnf
  exact hX _ (l_countOf h x n hn ⟨rfl, rfl⟩ n 0 (by omega))
