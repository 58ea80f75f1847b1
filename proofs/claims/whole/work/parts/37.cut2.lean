/-! The class's findCut: which statements the cut has -/
/-- those of the first n that p picks -/
def sel (p : Nat → Bool) : Nat → List Nat
  | 0 => []
  | n + 1 => bif p n then sel p n ++ [n] else sel p n
theorem sel_t {p : Nat → Bool} {n : Nat} (h : p n = true) : sel p (n + 1) = sel p n ++ [n] := by simp [sel, h]
theorem sel_f {p : Nat → Bool} {n : Nat} (h : p n = false) : sel p (n + 1) = sel p n := by simp [sel, h]
theorem sel_len (p : Nat → Bool) : ∀ n, (sel p n).length ≤ n
  | 0 => Nat.le_refl 0
  | n + 1 => by
    have := sel_len p n
    simp only [sel]
    cases p n <;> simp <;> omega
theorem sel_congr {p q : Nat → Bool} : ∀ {n : Nat}, (∀ k, k < n → p k = q k) → sel p n = sel q n
  | 0, _ => rfl
  | n + 1, h => by rw [sel, sel, sel_congr (fun k hk => h k (by omega)), h n (by omega)]
theorem sel_stop {p : Nat → Bool} {m : Nat} : ∀ {n : Nat}, m ≤ n → (∀ k, m ≤ k → k < n → p k = false) → sel p n = sel p m
  | 0, h, _ => by rw [show m = 0 by omega]
  | n + 1, h, hp => by
    by_cases he : m = n + 1
    · rw [he]
    · rw [sel_f (hp n (by omega) (by omega))]
      exact sel_stop (by omega) (fun k h1 h2 => hp k h1 (by omega))
theorem mul2d : ∀ s, s < 132 → (2 : Int32) * nI s = nI (2 * s) ∧ (2 : Int32) * nI s + 1 = nI (2 * s + 1) := by decide +kernel
theorem v_isStanding (h : ia_H) (s : Nat) (hs : s < 120) : V_ 43 [.ref 29, .int (nI s)] h (Z_ (.int (bif !decide (h.1 30 (2 * s) = -1) then 1 else 0)) h) := by
  refine ia_V_in ia_k_X6_isStanding [some (.ref 29), some (.int (nI s))] rfl rfl (Nat.le_of_ble_eq_true rfl) rfl ?_
  refine ia_walk (fun _ => false) 60 (fun X hX => ?_)
  conv => whnf
  refine Exists.intro (2 * s) (And.intro (And.intro ((mul2d s (by omega)).1) (by omega)) ?_)
  conv => whnf
  refine And.intro (fun c => ?_) (fun c => ?_)
  · conv => whnf
    refine ⟨Or.inl rfl, ?_, rfl⟩
    have c : h.1 30 (2 * s) = -1 := c
    rw [c]
    rfl
  · conv => whnf
    refine ⟨Or.inr rfl, ?_, rfl⟩
    have c : ¬ h.1 30 (2 * s) = -1 := c
    rw [decide_eq_false c]
    rfl
theorem v_isReached (h : ia_H) (g : Nat) (hg : g < 41) : V_ 54 [.ref 29, .int (nI g)] h (Z_ (.int (bif !decide (h.1 37 g = -1) then 1 else 0)) h) := by
  refine ia_V_in ia_k_X6_isReached [some (.ref 29), some (.int (nI g))] rfl rfl (Nat.le_of_ble_eq_true rfl) rfl ?_
  refine ia_walk (fun _ => false) 60 (fun X hX => ?_)
  conv => whnf
  refine Exists.intro _ (And.intro (And.intro rfl (by omega)) ?_)
  conv => whnf
  refine And.intro (fun c => ?_) (fun c => ?_)
  · conv => whnf
    refine ⟨Or.inl rfl, ?_, rfl⟩
    have c : h.1 37 g = -1 := c
    rw [c]
    rfl
  · conv => whnf
    refine ⟨Or.inr rfl, ?_, rfl⟩
    have c : ¬ h.1 37 g = -1 := c
    rw [decide_eq_false c]
    rfl
theorem v_isReachedE (h : ia_H) {x : Int32} {g : Nat} (e : x = nI g) (hg : g < 41) : V_ 54 [.ref 29, .int x] h (Z_ (.int (bif !decide (h.1 37 g = -1) then 1 else 0)) h) := by
  subst e
  exact v_isReached h g hg
/-- which statement is in the cut that q has on one side -/
def cuP (sd : Nat → Bool) (A B : Nat → Nat) (q : List Nat) (s : Nat) : Bool := sd s && (decide (A s ∈ q) != decide (B s ∈ q))
theorem bne01 : ∀ a b : Bool, ((bif a then (1 : Int32) else 0) = (bif b then 1 else 0)) ↔ a = b := by decide
theorem l_cut2 (h : ia_H) (sd : Nat → Bool) (A B : Nat → Nat) (m : Nat) (hm : m ≤ 41) (hw : ∀ w, w < 240 → cst sd w = true → h.1 30 w = nI (cdt A B w) ∧ cdt A B w < m) (hL : ∀ s, s < 120 → sd s = false → h.1 30 (2 * s) = -1) (q : List Nat) (hq : ∀ g, g < 41 → (h.1 37 g = -1 ↔ ¬ g ∈ q)) (a1 a2 : Int32) {Z : Option Value → ia_H → Prop}
    (hZ : ∀ T, rwOk T (sel (cuP sd A B q) 120) → Z (some (.int (nI (sel (cuP sd A B q) 120).length))) (hsI h 34 T)) :
    ∀ (k s : Nat) (T : Nat → Int32), s + k = 120 → rwOk T (sel (cuP sd A B q) s) → R_ ia_k_X6_findCut Z (54, [some (.ref 29), some (.int a1), some (.int a2), some (.int (nI (sel (cuP sd A B q) s).length)), some (.int (nI s))], [], hsI h 34 T) := by
  intro k
  induction k with
  | zero =>
    intro s T hs hT
    rw [show s = 120 by omega] at hT ⊢
    refine ia_walk (fun pc => Nat.beq pc 54) 60 (fun X hX => ?_)
    conv => whnf
    refine And.intro (fun c => ?_) (fun c => ?_)
    · exact absurd (show nI 120 < 120 from c) (by decide)
    · conv => whnf
      exact hZ T hT
  | succ k ih =>
    intro s T hs hT
    have hl := sel_len (cuP sd A B q) s
    have ih := ih (s + 1)
    refine ia_walk (fun pc => Nat.beq pc 54) 60 (fun X hX => ?_)
    conv => whnf
    refine And.intro (fun c => ?_) (fun c => ?_)
    · conv => whnf
      obtain ⟨v, ev, ev'⟩ := ia_callN (v_isStanding (hsI h 34 T) s (by omega))
      refine Exists.intro (_, _) (And.intro ev' ?_)
      clear ev'
      conv => whnf
      refine And.intro (fun c1 => ?_) (fun c1 => ?_)
      · conv => whnf
        have hsd : sd s = false := by
          cases e : sd s
          · rfl
          · exfalso
            have h1 := (hw (2 * s) (by omega) (by rw [(c_even sd A B s).1]; exact e))
            have h2 : ¬ h.1 30 (2 * s) = -1 := by rw [h1.1]; exact nI_nm1 (by omega)
            have h3 : (hsI h 34 T).1 30 (2 * s) = h.1 30 (2 * s) := rfl
            rw [ev, h3, decide_eq_false h2] at c1
            exact absurd c1 (by decide)
        have e := sel_f (p := cuP sd A B q) (n := s) (by unfold cuP; rw [hsd]; rfl)
        rw [nI_1]
        rw [e] at ih
        exact hX _ (ih T (by omega) hT)
      · have hsd : sd s = true := by
          cases e : sd s
          · exfalso
            have h3 : (hsI h 34 T).1 30 (2 * s) = -1 := hL s (by omega) e
            rw [ev, h3] at c1
            exact absurd c1 (by decide)
          · rfl
        have w0 := hw (2 * s) (by omega) (by rw [(c_even sd A B s).1]; exact hsd)
        have w1 := hw (2 * s + 1) (by omega) (by rw [(c_odd sd A B s).1]; exact hsd)
        rw [(c_even sd A B s).2.2] at w0
        rw [(c_odd sd A B s).2.2] at w1
        conv => whnf
        refine Exists.intro (2 * s) (And.intro (And.intro ((mul2d s (by omega)).1) (by omega)) ?_)
        conv => whnf
        obtain ⟨vb, eb, ev'⟩ := ia_callN (v_isReachedE (hsI h 34 T) w0.1 (by omega))
        refine Exists.intro (_, _) (And.intro ev' ?_)
        clear ev'
        conv => whnf
        refine Exists.intro (2 * s + 1) (And.intro (And.intro ((mul2d s (by omega)).2) (by omega)) ?_)
        conv => whnf
        obtain ⟨va, ea, ev'⟩ := ia_callN (v_isReachedE (hsI h 34 T) w1.1 (by omega))
        refine Exists.intro (_, _) (And.intro ev' ?_)
        clear ev'
        have hb : (!decide ((hsI h 34 T).1 37 (B s) = -1)) = decide (B s ∈ q) := by
          have := hq (B s) (by omega)
          by_cases z : B s ∈ q
          · rw [decide_eq_true z, decide_eq_false (show ¬ (hsI h 34 T).1 37 (B s) = -1 from fun y => this.mp y z)]; rfl
          · rw [decide_eq_false z, decide_eq_true (show (hsI h 34 T).1 37 (B s) = -1 from this.mpr z)]; rfl
        have ha : (!decide ((hsI h 34 T).1 37 (A s) = -1)) = decide (A s ∈ q) := by
          have := hq (A s) (by omega)
          by_cases z : A s ∈ q
          · rw [decide_eq_true z, decide_eq_false (show ¬ (hsI h 34 T).1 37 (A s) = -1 from fun y => this.mp y z)]; rfl
          · rw [decide_eq_false z, decide_eq_true (show (hsI h 34 T).1 37 (A s) = -1 from this.mpr z)]; rfl
        conv => whnf
        refine And.intro (fun c2 => ?_) (fun c2 => ?_)
        · conv => whnf
          have z : decide (B s ∈ q) = decide (A s ∈ q) := by
            rw [← hb, ← ha]
            refine (bne01 _ _).mp ?_
            rw [← eb, ← ea]
            exact c2
          have e := sel_f (p := cuP sd A B q) (n := s) (by unfold cuP; rw [z, hsd]; cases decide (A s ∈ q) <;> rfl)
          rw [nI_1]
          rw [e] at ih
          exact hX _ (ih T (by omega) hT)
        · have z : ¬ decide (B s ∈ q) = decide (A s ∈ q) := by
            intro y
            rw [← hb, ← ha] at y
            have := (bne01 _ _).mpr y
            rw [← eb, ← ea] at this
            exact c2 this
          have e := sel_t (p := cuP sd A B q) (n := s) (by
            unfold cuP; rw [hsd]; revert z; cases decide (A s ∈ q) <;> cases decide (B s ∈ q) <;> decide)
          conv => whnf
          refine Exists.intro _ (And.intro (And.intro rfl (by omega)) ?_)
          conv => whnf
          rw [nI_1, nI_1]
          rw [e, List.length_append] at ih
          refine hX _ ?_
          have := ih (upd T (sel (cuP sd A B q) s).length (nI s)) (by omega) (rwOk_put hT s)
          rw [← hsI_same h 34 T] at this
          exact this
    · exact absurd ((nI_lt120 (by omega)).mpr (by omega)) c
theorem v_findCut (h : ia_H) (n m : Nat) (hn : n ≤ 120) (hm : m ≤ 41) (sd : Nat → Bool) (A B : Nat → Nat) (hsd : ∀ s, n ≤ s → sd s = false) (hw : wbOk h (cst sd) (csr A B) (cdt A B) m) (hL : ∀ s, s < 120 → sd s = false → h.1 30 (2 * s) = -1) (r o N : Nat) (hr : r < m) (ho : o < m) (hN : N ≤ 119) (n2 : ∀ j, j < N → o ∈ (cuS sd A B r (cuQ sd A B r o j)).1) (n1 : ¬ o ∈ (cuS sd A B r (cuQ sd A B r o N)).1) :
    V_ 53 [.ref 29, .int (nI r), .int (nI o)] h (fun v h' => v = some (.int (nI (sel (cuP sd A B (cuS sd A B r (cuQ sd A B r o N)).1) 120).length)) ∧ frW h h' ∧ rwOk (h'.1 34) (sel (cuP sd A B (cuS sd A B r (cuQ sd A B r o N)).1) 120)) := by
  refine ia_V_in ia_k_X6_findCut [some (.ref 29), some (.int (nI r)), some (.int (nI o)), none, none] rfl rfl (Nat.le_of_ble_eq_true rfl) rfl ?_
  refine ia_walk (fun pc => Nat.beq pc 10) 60 (fun X hX => ?_)
  conv => whnf
  refine Exists.intro (_, _) (And.intro (ia_callE (v_fill_flow h 0)) ?_)
  conv => whnf
  refine hX _ (l_cut1 h n m hn hm sd A B hsd r o N hr ho hN n2 n1 (fun H a3 a4 hf hq => ?_) N 0 none (h0F h) (by omega) (frW_39 ⟨fun _ _ _ _ _ _ _ => rfl, rfl⟩ _) hw (fun s hs => ?_))
  · refine ia_walk (fun pc => Nat.beq pc 54) 60 (fun X hX => ?_)
    conv => whnf
    have e30 : H.1 30 = h.1 30 := hf.1 30 (by decide) (by decide) (by decide) (by decide) (by decide) (by decide)
    have l2 := l_cut2 H sd A B m hm (fun w h1 h2 => ⟨by rw [e30]; exact (hw.1 w h1 h2).1, (hw.1 w h1 h2).2.1⟩) (fun s h1 h2 => by rw [e30]; exact hL s h1 h2) _ hq (nI r) (nI o) (Z := fun v h' => v = some (.int (nI (sel (cuP sd A B (cuS sd A B r (cuQ sd A B r o N)).1) 120).length)) ∧ frW h h' ∧ rwOk (h'.1 34) (sel (cuP sd A B (cuS sd A B r (cuQ sd A B r o N)).1) 120)) (fun T hT => ⟨rfl, frW_34 hf T, hT⟩) 120 0 (H.1 34) (by omega) (fun i hi => absurd hi (Nat.not_lt_zero i))
    rw [hsI_eta] at l2
    exact hX _ l2
  · show flF (h.1 39) 120 0 s = 0
    exact if_pos hs
