/-! The reference's joins and judges -/
def mgL (L : Nat → Int32) (p q x : Int32) (n : Nat) : Nat → Int32 := fun j => if j < n ∧ (L j = p ∨ L j = q) then x else L j
def mgO (L : Nat → Int32) (O : Nat → Int64) (p q : Int32) (sh dn : Int64) (n : Nat) : Nat → Int64 := fun j => if j < n then (if L j = p then O j + sh - dn else if L j = q then O j - dn else O j) else O j
theorem mgL_0 (L : Nat → Int32) (p q x : Int32) : mgL L p q x 0 = L := by funext j; simp [mgL]
theorem mgO_0 (L : Nat → Int32) (O : Nat → Int64) (p q : Int32) (sh dn : Int64) : mgO L O p q sh dn 0 = O := by funext j; simp [mgO]
theorem mgL_ge {L : Nat → Int32} {p q x : Int32} {n j : Nat} (h : n ≤ j) : mgL L p q x n j = L j := if_neg (fun z => by omega)
theorem mgO_ge {L : Nat → Int32} {O : Nat → Int64} {p q : Int32} {sh dn : Int64} {n j : Nat} (h : n ≤ j) : mgO L O p q sh dn n j = O j := if_neg (fun z => by omega)
theorem mgL_t {L : Nat → Int32} {p q x : Int32} {n : Nat} (h : L n = p ∨ L n = q) : upd (mgL L p q x n) n x = mgL L p q x (n + 1) := by
  funext j
  simp only [upd, mgL]
  by_cases hj : j = n
  · subst hj; rw [if_pos rfl, if_pos ⟨Nat.lt_succ_self j, h⟩]
  · rw [if_neg hj]
    by_cases hl : j < n
    · simp [hl, Nat.lt_succ_of_lt hl]
    · rw [if_neg (fun z => hl z.1), if_neg (fun z => hl (by omega))]
theorem mgL_f {L : Nat → Int32} {p q x : Int32} {n : Nat} (h : ¬ (L n = p ∨ L n = q)) : mgL L p q x n = mgL L p q x (n + 1) := by
  funext j
  simp only [mgL]
  by_cases hj : j = n
  · subst hj; rw [if_neg (fun z => absurd z.1 (Nat.lt_irrefl j)), if_neg (fun z => h z.2)]
  · by_cases hl : j < n
    · simp [hl, Nat.lt_succ_of_lt hl]
    · rw [if_neg (fun z => hl z.1), if_neg (fun z => hl (by omega))]
theorem mgO_s {L : Nat → Int32} {O : Nat → Int64} {p q : Int32} {sh dn : Int64} {n : Nat} {v : Int64} (h : v = if L n = p then O n + sh - dn else if L n = q then O n - dn else O n) : vp_updL (mgO L O p q sh dn n) n v = mgO L O p q sh dn (n + 1) := by
  funext j
  simp only [vp_updL, mgO]
  by_cases hj : j = n
  · subst hj; rw [if_pos rfl, if_pos (Nat.lt_succ_self j), h]
  · rw [if_neg hj]
    by_cases hl : j < n
    · rw [if_pos hl, if_pos (Nat.lt_succ_of_lt hl)]
    · rw [if_neg hl, if_neg (by omega)]
theorem mgO_f {L : Nat → Int32} {O : Nat → Int64} {p q : Int32} {sh dn : Int64} {n : Nat} (h : ¬ (L n = p ∨ L n = q)) : mgO L O p q sh dn n = mgO L O p q sh dn (n + 1) := by
  funext j
  simp only [mgO]
  by_cases hj : j = n
  · subst hj; rw [if_neg (Nat.lt_irrefl j), if_pos (Nat.lt_succ_self j), if_neg (fun z => h (Or.inl z)), if_neg (fun z => h (Or.inr z))]
  · by_cases hl : j < n
    · rw [if_pos hl, if_pos (Nat.lt_succ_of_lt hl)]
    · rw [if_neg hl, if_neg (by omega)]
/-- the heap with groupOf and by put in -/
def hM (h : ia_H) (L : Nat → Int32) (O : Nat → Int64) : ia_H := hsL (hsI h 60 L) 61 O
theorem l_joins (h : ia_H) (s G : Nat) (hG : G ≤ 41) (eG : h.1 52 4 = nI G) (p q x : Int32) (sh dn : Int64) {Z : Option Value → ia_H → Prop} (hZ : Z none (hM h (mgL (h.1 60) p q x G) (mgO (h.1 60) (h.2 61) p q sh dn G))) : ∀ k g : Nat, g + k = G → R_ ia_k_X8_joins Z (93, [some (.ref 52), some (.int (nI s)), some (.int p), some (.int q), some (.long sh), none, some (.int x), some (.long dn), none, some (.int (nI g))], [], hM h (mgL (h.1 60) p q x g) (mgO (h.1 60) (h.2 61) p q sh dn g)) := by
  intro k
  induction k with
  | zero =>
    intro g hg
    have eg : g = G := by omega
    subst eg
    refine ia_walk (fun pc => Nat.beq pc 93) 50 (fun X hX => ?_)
    conv => whnf
    refine And.intro (fun c => ?_) (fun c => ?_)
    · exact absurd c (by show ¬ nI g < h.1 52 4; rw [eG]; exact nI_nlt (Nat.le_refl g) (by omega))
    · conv => whnf
      exact hZ
  | succ k ih =>
    intro g hg
    have eL : mgL (h.1 60) p q x g g = h.1 60 g := mgL_ge (Nat.le_refl g)
    have eO : mgO (h.1 60) (h.2 61) p q sh dn g g = h.2 61 g := mgO_ge (Nat.le_refl g)
    have put : ∀ v : Int64, (h.1 60 g = p ∨ h.1 60 g = q) → (v = if h.1 60 g = p then h.2 61 g + sh - dn else if h.1 60 g = q then h.2 61 g - dn else h.2 61 g) → hsI (hsL (hM h (mgL (h.1 60) p q x g) (mgO (h.1 60) (h.2 61) p q sh dn g)) 61 (vp_updL (mgO (h.1 60) (h.2 61) p q sh dn g) g v)) 60 (upd (mgL (h.1 60) p q x g) g x) = hM h (mgL (h.1 60) p q x (g + 1)) (mgO (h.1 60) (h.2 61) p q sh dn (g + 1)) := by
      intro v h1 h2
      rw [mgO_s h2, mgL_t h1]
      unfold hM
      rw [hsL_same, hsIL, hsI_same]
    refine ia_walk (fun pc => Nat.beq pc 93) 60 (fun X hX => ?_)
    conv => whnf
    refine And.intro (fun c => ?_) (fun c => ?_)
    · conv => whnf
      refine Exists.intro _ (And.intro (And.intro rfl (by omega)) ?_)
      conv => whnf
      refine And.intro (fun c1 => ?_) (fun c1 => ?_)
      · have c1 : h.1 60 g = p := eL.symm.trans c1
        conv => whnf
        refine Exists.intro _ (And.intro (And.intro rfl (by omega)) ?_)
        conv => whnf
        refine Exists.intro _ (And.intro (And.intro rfl (by omega)) ?_)
        conv => whnf
        refine Exists.intro _ (And.intro (And.intro rfl (by omega)) ?_)
        conv => whnf
        rw [nI_1]
        exact hX _ (put (mgO (h.1 60) (h.2 61) p q sh dn g g + sh - dn) (Or.inl c1) (by rw [if_pos c1, eO]) ▸ ih (g + 1) (by omega) : ia_Run _ _ _ _ (93, _, _, hsI (hsL (hM h (mgL (h.1 60) p q x g) (mgO (h.1 60) (h.2 61) p q sh dn g)) 61 (vp_updL (mgO (h.1 60) (h.2 61) p q sh dn g) g (mgO (h.1 60) (h.2 61) p q sh dn g g + sh - dn))) 60 (upd (mgL (h.1 60) p q x g) g x)))
      · have c1 : ¬ h.1 60 g = p := fun z => c1 (eL.trans z)
        conv => whnf
        refine Exists.intro _ (And.intro (And.intro rfl (by omega)) ?_)
        conv => whnf
        refine And.intro (fun c2 => ?_) (fun c2 => ?_)
        · have c2 : h.1 60 g = q := eL.symm.trans c2
          conv => whnf
          refine Exists.intro _ (And.intro (And.intro rfl (by omega)) ?_)
          conv => whnf
          refine Exists.intro _ (And.intro (And.intro rfl (by omega)) ?_)
          conv => whnf
          refine Exists.intro _ (And.intro (And.intro rfl (by omega)) ?_)
          conv => whnf
          rw [nI_1]
          exact hX _ (put (mgO (h.1 60) (h.2 61) p q sh dn g g - dn) (Or.inr c2) (by rw [if_neg c1, if_pos c2, eO]) ▸ ih (g + 1) (by omega) : ia_Run _ _ _ _ (93, _, _, hsI (hsL (hM h (mgL (h.1 60) p q x g) (mgO (h.1 60) (h.2 61) p q sh dn g)) 61 (vp_updL (mgO (h.1 60) (h.2 61) p q sh dn g) g (mgO (h.1 60) (h.2 61) p q sh dn g g - dn))) 60 (upd (mgL (h.1 60) p q x g) g x)))
        · have c2 : ¬ h.1 60 g = q := fun z => c2 (eL.trans z)
          conv => whnf
          rw [nI_1, mgL_f (fun z => z.elim c1 c2), mgO_f (fun z => z.elim c1 c2)]
          exact hX _ (ih (g + 1) (by omega))
    · exact absurd (by show nI g < h.1 52 4; rw [eG]; exact nI_lt (by omega) (by omega)) c
def mqX (L : Nat → Int32) (a b : Nat) : Int32 := if L a < L b then L a else L b
def mqD (L : Nat → Int32) (O : Nat → Int64) (a b la : Nat) (m : Int64) : Int64 := if mqX L a b = L b then 0 else O la + (O b + m - O a)
def mqL (L : Nat → Int32) (G a b : Nat) : Nat → Int32 := mgL L (L a) (L b) (mqX L a b) G
def mqO (L : Nat → Int32) (O : Nat → Int64) (G a b la : Nat) (m : Int64) : Nat → Int64 := mgO L O (L a) (L b) (O b + m - O a) (mqD L O a b la m) G
theorem v_joins (h : ia_H) (s a b G la : Nat) (hs : s < 132) (ha : a < 41) (hb : b < 41) (hG : G ≤ 41) (hla : la < 41) (ela : h.1 60 a = nI la) (eG : h.1 52 4 = nI G) (e1 : h.1 56 s = nI a) (e2 : h.1 57 s = nI b) : V_ 116 [.ref 52, .int (nI s)] h (fun r h' => r = none ∧ h' = hM h (mqL (h.1 60) G a b) (mqO (h.1 60) (h.2 61) G a b la (h.2 58 s))) := by
  have e0 : hM h (mgL (h.1 60) (h.1 60 a) (h.1 60 b) (mqX (h.1 60) a b) 0) (mgO (h.1 60) (h.2 61) (h.1 60 a) (h.1 60 b) (h.2 61 b + h.2 58 s - h.2 61 a) (mqD (h.1 60) (h.2 61) a b la (h.2 58 s)) 0) = h := by
    rw [mgL_0, mgO_0]
    unfold hM
    rw [hsI_eta, hsL_eta]
  have lp := l_joins h s G hG eG (h.1 60 a) (h.1 60 b) (mqX (h.1 60) a b) (h.2 61 b + h.2 58 s - h.2 61 a) (mqD (h.1 60) (h.2 61) a b la (h.2 58 s)) (Z := fun r h' => r = none ∧ h' = hM h (mqL (h.1 60) G a b) (mqO (h.1 60) (h.2 61) G a b la (h.2 58 s))) ⟨rfl, rfl⟩ G 0 (by omega)
  rw [e0] at lp
  refine ia_V_in ia_k_X8_joins [some (.ref 52), some (.int (nI s)), none, none, none, none, none, none, none, none] rfl rfl (Nat.le_of_ble_eq_true rfl) rfl ?_
  refine ia_walk (fun pc => Nat.beq pc 93) 90 (fun X hX => ?_)
  conv => whnf
  refine Exists.intro _ (And.intro (And.intro rfl (hs)) ?_)
  conv => whnf
  refine Exists.intro (a) (And.intro (And.intro (e1) (ha)) ?_)
  conv => whnf
  refine Exists.intro _ (And.intro (And.intro rfl (hs)) ?_)
  conv => whnf
  refine Exists.intro (b) (And.intro (And.intro (e2) (hb)) ?_)
  conv => whnf
  refine Exists.intro _ (And.intro (And.intro rfl (hs)) ?_)
  conv => whnf
  refine Exists.intro (b) (And.intro (And.intro (e2) (hb)) ?_)
  conv => whnf
  refine Exists.intro _ (And.intro (And.intro rfl (hs)) ?_)
  conv => whnf
  refine Exists.intro _ (And.intro (And.intro rfl (hs)) ?_)
  conv => whnf
  refine Exists.intro (a) (And.intro (And.intro (e1) (ha)) ?_)
  conv => whnf
  refine And.intro (fun c => ?_) (fun c => ?_)
  · have ex : mqX (h.1 60) a b = h.1 60 a := if_pos c
    rw [ex] at lp
    conv => whnf
    refine And.intro (fun c2 => ?_) (fun c2 => ?_)
    · have ed : mqD (h.1 60) (h.2 61) a b la (h.2 58 s) = 0 := by unfold mqD; rw [ex, if_pos c2]
      rw [ed] at lp
      conv => whnf
      exact hX _ (lp)
    · conv => whnf
      refine Exists.intro (la) (And.intro (And.intro (ela) (hla)) ?_)
      have ed : mqD (h.1 60) (h.2 61) a b la (h.2 58 s) = h.2 61 la + (h.2 61 b + h.2 58 s - h.2 61 a) := by unfold mqD; rw [ex, if_neg c2]
      rw [ed] at lp
      conv => whnf
      exact hX _ (lp)
  · have ex : mqX (h.1 60) a b = h.1 60 b := if_neg c
    rw [ex] at lp
    conv => whnf
    refine And.intro (fun c2 => ?_) (fun c2 => ?_)
    · have ed : mqD (h.1 60) (h.2 61) a b la (h.2 58 s) = 0 := by unfold mqD; rw [ex, if_pos rfl]
      rw [ed] at lp
      conv => whnf
      exact hX _ (lp)
    · exact absurd rfl c2
