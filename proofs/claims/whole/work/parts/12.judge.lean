/-! heaps with a cell's numbers put in -/
def hsI (h : ia_H) (x : Nat) (f : Nat → Int32) : ia_H := (fun y => if y = x then f else h.1 y, h.2)
def hsL (h : ia_H) (x : Nat) (f : Nat → Int64) : ia_H := (h.1, fun y => if y = x then f else h.2 y)
theorem hsI_u (h : ia_H) (x i : Nat) (v : Int32) : ((ia_uI h.1 x i v, h.2) : ia_H) = hsI h x (upd (h.1 x) i v) := rfl
theorem hsL_u (h : ia_H) (x i : Nat) (v : Int64) : ((h.1, ia_uL h.2 x i v) : ia_H) = hsL h x (vp_updL (h.2 x) i v) := rfl
theorem hsI_same (h : ia_H) (x : Nat) (f g : Nat → Int32) : hsI (hsI h x f) x g = hsI h x g := by
  refine Prod.ext (funext fun y => ?_) rfl
  show (if y = x then g else if y = x then f else h.1 y) = if y = x then g else h.1 y
  by_cases hy : y = x <;> simp [hy]
theorem hsL_same (h : ia_H) (x : Nat) (f g : Nat → Int64) : hsL (hsL h x f) x g = hsL h x g := by
  refine Prod.ext rfl (funext fun y => ?_)
  show (if y = x then g else if y = x then f else h.2 y) = if y = x then g else h.2 y
  by_cases hy : y = x <;> simp [hy]
theorem hsI_comm (h : ia_H) {x y : Nat} (hxy : x ≠ y) (f g : Nat → Int32) : hsI (hsI h x f) y g = hsI (hsI h y g) x f := by
  refine Prod.ext (funext fun z => ?_) rfl
  show (if z = y then g else if z = x then f else h.1 z) = if z = x then f else if z = y then g else h.1 z
  by_cases h1 : z = x
  · rw [if_neg (fun q => hxy (h1.symm.trans q)), if_pos h1, if_pos h1]
  · rw [if_neg h1, if_neg h1]
theorem hsIL (h : ia_H) (x y : Nat) (f : Nat → Int32) (o : Nat → Int64) : hsI (hsL h y o) x f = hsL (hsI h x f) y o := rfl
theorem hsI_eta (h : ia_H) (x : Nat) : hsI h x (h.1 x) = h := by
  refine Prod.ext (funext fun y => ?_) rfl
  show (if y = x then h.1 x else h.1 y) = h.1 y
  by_cases hy : y = x <;> simp [hy]
theorem hsL_eta (h : ia_H) (x : Nat) : hsL h x (h.2 x) = h := by
  refine Prod.ext rfl (funext fun y => ?_)
  show (if y = x then h.2 x else h.2 y) = h.2 y
  by_cases hy : y = x <;> simp [hy]
theorem hsI_at (h : ia_H) (x : Nat) (f : Nat → Int32) : (hsI h x f).1 x = f := if_pos rfl
theorem hsL_at (h : ia_H) (x : Nat) (f : Nat → Int64) : (hsL h x f).2 x = f := if_pos rfl
theorem hsI_ne (h : ia_H) {x y : Nat} (f : Nat → Int32) (hy : y ≠ x) : (hsI h x f).1 y = h.1 y := if_neg hy
theorem hsL_ne (h : ia_H) {x y : Nat} (f : Nat → Int64) (hy : y ≠ x) : (hsL h x f).2 y = h.2 y := if_neg hy
/-! Groups.move: all below n that are of the group p come to q, by d -/
def mvL (L : Nat → Int32) (p q : Int32) (n : Nat) : Nat → Int32 := fun j => if j < n ∧ L j = p then q else L j
def mvO (L : Nat → Int32) (O : Nat → Int64) (p : Int32) (d : Int64) (n : Nat) : Nat → Int64 := fun j => if j < n ∧ L j = p then O j + d else O j
theorem mvL_0 (L : Nat → Int32) (p q : Int32) : mvL L p q 0 = L := by funext j; simp [mvL]
theorem mvO_0 (L : Nat → Int32) (O : Nat → Int64) (p : Int32) (d : Int64) : mvO L O p d 0 = O := by funext j; simp [mvO]
theorem mvL_ge {L : Nat → Int32} {p q : Int32} {n j : Nat} (h : n ≤ j) : mvL L p q n j = L j := if_neg (fun z => by omega)
theorem mvO_ge {L : Nat → Int32} {O : Nat → Int64} {p : Int32} {d : Int64} {n j : Nat} (h : n ≤ j) : mvO L O p d n j = O j := if_neg (fun z => by omega)
theorem mvL_t {L : Nat → Int32} {p q : Int32} {n : Nat} (h : L n = p) : upd (mvL L p q n) n q = mvL L p q (n + 1) := by
  funext j
  simp only [upd, mvL]
  by_cases hj : j = n
  · subst hj; simp [h]
  · simp only [hj, if_false]
    by_cases hl : j < n
    · simp [hl, Nat.lt_succ_of_lt hl]
    · rw [if_neg (fun z => hl z.1), if_neg (fun z => hl (by omega))]
theorem mvL_f {L : Nat → Int32} {p q : Int32} {n : Nat} (h : ¬ L n = p) : mvL L p q n = mvL L p q (n + 1) := by
  funext j
  simp only [mvL]
  by_cases hj : j = n
  · subst hj; simp [h]
  · by_cases hl : j < n
    · simp [hl, Nat.lt_succ_of_lt hl]
    · rw [if_neg (fun z => hl z.1), if_neg (fun z => hl (by omega))]
theorem mvO_t {L : Nat → Int32} {O : Nat → Int64} {p : Int32} {d : Int64} {n : Nat} (h : L n = p) : vp_updL (mvO L O p d n) n (O n + d) = mvO L O p d (n + 1) := by
  funext j
  simp only [vp_updL, mvO]
  by_cases hj : j = n
  · subst hj; simp [h]
  · simp only [hj, if_false]
    by_cases hl : j < n
    · simp [hl, Nat.lt_succ_of_lt hl]
    · rw [if_neg (fun z => hl z.1), if_neg (fun z => hl (by omega))]
theorem mvO_f {L : Nat → Int32} {O : Nat → Int64} {p : Int32} {d : Int64} {n : Nat} (h : ¬ L n = p) : mvO L O p d n = mvO L O p d (n + 1) := by
  funext j
  simp only [mvO]
  by_cases hj : j = n
  · subst hj; simp [h]
  · by_cases hl : j < n
    · simp [hl, Nat.lt_succ_of_lt hl]
    · rw [if_neg (fun z => hl z.1), if_neg (fun z => hl (by omega))]
/-- the heap with least and offset put in -/
def hG (h : ia_H) (L : Nat → Int32) (O : Nat → Int64) : ia_H := hsL (hsI h 27 L) 28 O
theorem l_move (h : ia_H) (p q : Int32) (d : Int64) {Z : Option Value → ia_H → Prop} (hZ : Z none (hG h (mvL (h.1 27) p q 41) (mvO (h.1 27) (h.2 28) p d 41))) : ∀ k g : Nat, g + k = 41 → R_ ia_k_X1_move Z (3, [some (.ref 25), some (.int p), some (.int q), some (.long d), none, some (.int (nI g))], [], hG h (mvL (h.1 27) p q g) (mvO (h.1 27) (h.2 28) p d g)) := by
  intro k
  induction k with
  | zero =>
    intro g hg
    rw [show g = 41 by omega]
    refine ia_walk (fun pc => Nat.beq pc 3) 50 (fun X hX => ?_)
    conv => whnf
    refine And.intro (fun c => ?_) (fun c => ?_)
    · exact absurd c (by decide)
    · conv => whnf
      exact hZ
  | succ k ih =>
    intro g hg
    have eL : mvL (h.1 27) p q g g = h.1 27 g := mvL_ge (Nat.le_refl g)
    have eO : mvO (h.1 27) (h.2 28) p d g g = h.2 28 g := mvO_ge (Nat.le_refl g)
    refine ia_walk (fun pc => Nat.beq pc 3) 50 (fun X hX => ?_)
    conv => whnf
    refine And.intro (fun c => ?_) (fun c => ?_)
    · conv => whnf
      refine Exists.intro _ (And.intro (And.intro rfl (by omega)) ?_)
      conv => whnf
      refine And.intro (fun c2 => ?_) (fun c2 => ?_)
      · conv => whnf
        refine Exists.intro _ (And.intro (And.intro rfl (by omega)) ?_)
        conv => whnf
        refine Exists.intro _ (And.intro (And.intro rfl (by omega)) ?_)
        conv => whnf
        refine Exists.intro _ (And.intro (And.intro rfl (by omega)) ?_)
        conv => whnf
        have c3 : h.1 27 g = p := eL.symm.trans c2
        rw [nI_1]
        have e2 : vp_updL (mvO (h.1 27) (h.2 28) p d g) g (mvO (h.1 27) (h.2 28) p d g g + d) = mvO (h.1 27) (h.2 28) p d (g + 1) := by rw [eO]; exact mvO_t c3
        have e3 : hsL (hsI (hG h (mvL (h.1 27) p q g) (mvO (h.1 27) (h.2 28) p d g)) 27 (upd (mvL (h.1 27) p q g) g q)) 28 (vp_updL (mvO (h.1 27) (h.2 28) p d g) g (mvO (h.1 27) (h.2 28) p d g g + d)) = hG h (mvL (h.1 27) p q (g + 1)) (mvO (h.1 27) (h.2 28) p d (g + 1)) := by
          rw [e2, mvL_t c3]
          unfold hG
          rw [hsIL, hsL_same, hsI_same]
        refine hX _ (e3 ▸ ih (g + 1) (by omega) : ia_Run _ _ _ _ (3, _, _, hsL (hsI (hG h (mvL (h.1 27) p q g) (mvO (h.1 27) (h.2 28) p d g)) 27 (upd (mvL (h.1 27) p q g) g q)) 28 (vp_updL (mvO (h.1 27) (h.2 28) p d g) g (mvO (h.1 27) (h.2 28) p d g g + d))))
      · conv => whnf
        have c3 : ¬ h.1 27 g = p := fun z => c2 (eL.trans z)
        rw [nI_1, mvL_f c3, mvO_f c3]
        exact hX _ (ih (g + 1) (by omega))
    · exact absurd ((nI_lt41 (by omega)).mpr (by omega)) c
theorem v_move (h : ia_H) (p q : Int32) (d : Int64) : V_ 5 [.ref 25, .int p, .int q, .long d] h (fun r h' => r = none ∧ h' = hG h (mvL (h.1 27) p q 41) (mvO (h.1 27) (h.2 28) p d 41)) := by
  refine ia_V_in ia_k_X1_move [some (.ref 25), some (.int p), some (.int q), some (.long d), none, none] rfl rfl (Nat.le_of_ble_eq_true rfl) rfl ?_
  refine ia_walk (fun pc => Nat.beq pc 3) 50 (fun X hX => ?_)
  conv => whnf
  have e : hG h (mvL (h.1 27) p q 0) (mvO (h.1 27) (h.2 28) p d 0) = h := by
    rw [mvL_0, mvO_0]
    unfold hG
    rw [hsI_eta, hsL_eta]
  have := l_move h p q d (Z := fun r h' => r = none ∧ h' = hG h (mvL (h.1 27) p q 41) (mvO (h.1 27) (h.2 28) p d 41)) ⟨rfl, rfl⟩ 41 0 rfl
  rw [e] at this
  exact hX _ this
/-- join, as least and offset go over -/
def jnL (L : Nat → Int32) (a b : Nat) : Nat → Int32 := if L a < L b then mvL L (L b) (L a) 41 else mvL L (L a) (L b) 41
def jnO (L : Nat → Int32) (O : Nat → Int64) (a b : Nat) (m : Int64) : Nat → Int64 := if L a < L b then mvO L O (L b) (-(O b + m - O a)) 41 else mvO L O (L a) (O b + m - O a) 41
theorem v_join (h : ia_H) (a b : Nat) (ha : a < 41) (hb : b < 41) (m : Int64) : V_ 4 [.ref 25, .int (nI a), .int (nI b), .long m] h (fun r h' => r = none ∧ h' = hG h (jnL (h.1 27) a b) (jnO (h.1 27) (h.2 28) a b m)) := by
  refine ia_V_in ia_k_X1_join [some (.ref 25), some (.int (nI a)), some (.int (nI b)), some (.long m), none, none, none] rfl rfl (Nat.le_of_ble_eq_true rfl) rfl ?_
  refine ia_walk (fun _ => false) 60 (fun X hX => ?_)
  conv => whnf
  refine Exists.intro _ (And.intro (And.intro rfl (hb)) ?_)
  conv => whnf
  refine Exists.intro _ (And.intro (And.intro rfl (ha)) ?_)
  conv => whnf
  refine Exists.intro _ (And.intro (And.intro rfl (ha)) ?_)
  conv => whnf
  refine Exists.intro _ (And.intro (And.intro rfl (hb)) ?_)
  conv => whnf
  refine And.intro (fun c => ?_) (fun c => ?_)
  · conv => whnf
    refine Exists.intro _ (And.intro (And.intro rfl (hb)) ?_)
    conv => whnf
    refine Exists.intro _ (And.intro (And.intro rfl (ha)) ?_)
    conv => whnf
    refine Exists.intro (_, _) (And.intro (ia_callE (v_move _ _ _ _)) ?_)
    conv => whnf
    exact ⟨rfl, by unfold jnL jnO; rw [if_pos c, if_pos c]; rfl⟩
  · conv => whnf
    refine Exists.intro _ (And.intro (And.intro rfl (ha)) ?_)
    conv => whnf
    refine Exists.intro _ (And.intro (And.intro rfl (hb)) ?_)
    conv => whnf
    refine Exists.intro (_, _) (And.intro (ia_callE (v_move _ _ _ _)) ?_)
    conv => whnf
    exact ⟨rfl, by unfold jnL jnO; rw [if_neg c, if_neg c]; rfl⟩
def mxL (x y : Int64) : Int64 := if y < x then x else y
def mnL (x y : Int64) : Int64 := if y < x then y else x
/-- what a statement is, as the class weighs it -/
def wgF (L : Nat → Int32) (O : Nat → Int64) (a b : Nat) (m : Int64) : Int32 :=
  if L a = L b then (if O a - O b = m then 1 else 2)
  else if 1000000000000000000 < mxL (gr_hi L O (L b) 41) (gr_hi L O (L a) 41 + (O b + m - O a)) - mnL (gr_lo L O (L b) 41) (gr_lo L O (L a) 41 + (O b + m - O a)) then 3 else 0
theorem v_weigh (h : ia_H) (s a b : Nat) (hs : s < 120) (ha : a < 41) (hb : b < 41) (e1 : h.1 7 s = nI a) (e2 : h.1 8 s = nI b) : V_ 3 [.ref 25, .ref 4, .int (nI s)] h (Z_ (.int (wgF (h.1 27) (h.2 28) a b (h.2 9 s))) h) := by
  refine ia_V_in ia_k_X1_weigh [some (.ref 25), some (.ref 4), some (.int (nI s)), none, none, none, none, none, none, none, none, none, none] rfl rfl (Nat.le_of_ble_eq_true rfl) rfl ?_
  refine ia_walk (fun _ => false) 120 (fun X hX => ?_)
  conv => whnf
  refine Exists.intro _ (And.intro (And.intro rfl (hs)) ?_)
  conv => whnf
  refine Exists.intro _ (And.intro (And.intro rfl (hs)) ?_)
  conv => whnf
  refine Exists.intro _ (And.intro (And.intro rfl (hs)) ?_)
  conv => whnf
  refine Exists.intro (a) (And.intro (And.intro (e1) (ha)) ?_)
  conv => whnf
  refine Exists.intro (b) (And.intro (And.intro (e2) (hb)) ?_)
  conv => whnf
  refine And.intro (fun c => ?_) (fun c => ?_)
  · conv => whnf
    refine Exists.intro (a) (And.intro (And.intro (e1) (ha)) ?_)
    conv => whnf
    refine Exists.intro (b) (And.intro (And.intro (e2) (hb)) ?_)
    conv => whnf
    refine And.intro (fun c2 => ?_) (fun c2 => ?_)
    · conv => whnf
      exact ⟨by unfold wgF; rw [if_pos c, if_pos ((lg_cmp_eq _ _).mp c2)], rfl⟩
    · conv => whnf
      exact ⟨by unfold wgF; rw [if_pos c, if_neg (fun q => c2 ((lg_cmp_eq _ _).mpr q))], rfl⟩
  · conv => whnf
    refine Exists.intro (b) (And.intro (And.intro (e2) (hb)) ?_)
    conv => whnf
    refine Exists.intro (a) (And.intro (And.intro (e1) (ha)) ?_)
    conv => whnf
    refine Exists.intro (b) (And.intro (And.intro (e2) (hb)) ?_)
    conv => whnf
    obtain ⟨x1, f1, ev'⟩ := ia_callN (f := Value.long) (v_highest h (h.1 27 b))
    refine Exists.intro (_, _) (And.intro ev' ?_)
    clear ev'
    conv => whnf
    refine Exists.intro (a) (And.intro (And.intro (e1) (ha)) ?_)
    conv => whnf
    obtain ⟨x2, f2, ev'⟩ := ia_callN (f := Value.long) (v_highest h (h.1 27 a))
    refine Exists.intro (_, _) (And.intro ev' ?_)
    clear ev'
    conv => whnf
    refine Exists.intro (b) (And.intro (And.intro (e2) (hb)) ?_)
    conv => whnf
    obtain ⟨x3, f3, ev'⟩ := ia_callN (f := Value.long) (v_lowest h (h.1 27 b))
    refine Exists.intro (_, _) (And.intro ev' ?_)
    clear ev'
    conv => whnf
    refine Exists.intro (a) (And.intro (And.intro (e1) (ha)) ?_)
    conv => whnf
    obtain ⟨x4, f4, ev'⟩ := ia_callN (f := Value.long) (v_lowest h (h.1 27 a))
    refine Exists.intro (_, _) (And.intro ev' ?_)
    clear ev'
    conv => whnf
    refine And.intro (fun c2 => ?_) (fun c2 => ?_)
    · conv => whnf
      exact ⟨by unfold wgF mxL mnL; rw [if_neg c, ← f1, ← f2, ← f3, ← f4, if_pos ((lg_cmp_gt _ _).mp c2)], rfl⟩
    · conv => whnf
      exact ⟨by unfold wgF mxL mnL; rw [if_neg c, ← f1, ← f2, ← f3, ← f4, if_neg (fun q => c2 ((lg_cmp_gt _ _).mpr q))], rfl⟩
