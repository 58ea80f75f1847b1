/-! Arrays.fill, by its own code, for each row that is filled -/
def flF (f : Nat → Int32) (n : Nat) (v : Int32) : Nat → Int32 := fun j => if j < n then v else f j
theorem flF_0 (f : Nat → Int32) (v : Int32) : flF f 0 v = f := by funext j; simp [flF]
theorem flF_s (f : Nat → Int32) (n : Nat) (v : Int32) : upd (flF f n v) n v = flF f (n + 1) v := by
  funext j
  simp only [upd, flF]
  by_cases hj : j = n
  · subst hj; simp
  · by_cases hl : j < n
    · simp [hj, hl, Nat.lt_succ_of_lt hl]
    · simp [hj, hl, show ¬ j < n + 1 by omega]
theorem l_fill_leads (h : ia_H) (v : Int32) {Z : Option Value → ia_H → Prop} (hZ : Z none (hsI h 30 (flF (h.1 30) 240 v))) : ∀ k i : Nat, i + k = 240 → R_ ia_k_J7_fill_53178 Z (5, [some (.ref 30), some (.int v), some (.int (nI i)), some (.int 240)], [], hsI h 30 (flF (h.1 30) i v)) := by
  intro k
  induction k with
  | zero =>
    intro i hi
    rw [show i = 240 by omega]
    refine ia_walk (fun pc => Nat.beq pc 5) 50 (fun X hX => ?_)
    conv => whnf
    refine And.intro (fun c => ?_) (fun c => ?_)
    · exact absurd c (by decide)
    · conv => whnf
      exact hZ
  | succ k ih =>
    intro i hi
    refine ia_walk (fun pc => Nat.beq pc 5) 50 (fun X hX => ?_)
    conv => whnf
    refine And.intro (fun c => ?_) (fun c => ?_)
    · conv => whnf
      refine Exists.intro _ (And.intro (And.intro rfl (by omega)) ?_)
      conv => whnf
      rw [nI_1]
      have e : hsI (hsI h 30 (flF (h.1 30) i v)) 30 (upd (flF (h.1 30) i v) i v) = hsI h 30 (flF (h.1 30) (i + 1) v) := by rw [hsI_same, flF_s]
      exact hX _ (e ▸ ih (i + 1) (by omega) : ia_Run _ _ _ _ (5, _, _, hsI (hsI h 30 (flF (h.1 30) i v)) 30 (upd (flF (h.1 30) i v) i v)))
    · exact absurd (show nI i < 240 from nI_lt (b := 240) (by omega) (by omega)) c
theorem v_fill_leads (h : ia_H) (v : Int32) : V_ 167 [.ref 30, .int v] h (fun r h' => r = none ∧ h' = hsI h 30 (flF (h.1 30) 240 v)) := by
  refine ia_V_in ia_k_J7_fill_53178 [some (.ref 30), some (.int v), none, none] rfl rfl (Nat.le_of_ble_eq_true rfl) rfl ?_
  refine ia_walk (fun pc => Nat.beq pc 5) 50 (fun X hX => ?_)
  conv => whnf
  have lp := l_fill_leads h v (Z := fun r h' => r = none ∧ h' = hsI h 30 (flF (h.1 30) 240 v)) ⟨rfl, rfl⟩ 240 0 rfl
  rw [flF_0, hsI_eta] at lp
  exact hX _ lp
theorem l_fill_begins (h : ia_H) (v : Int32) {Z : Option Value → ia_H → Prop} (hZ : Z none (hsI h 32 (flF (h.1 32) 42 v))) : ∀ k i : Nat, i + k = 42 → R_ ia_k_J7_fill_53178 Z (5, [some (.ref 32), some (.int v), some (.int (nI i)), some (.int 42)], [], hsI h 32 (flF (h.1 32) i v)) := by
  intro k
  induction k with
  | zero =>
    intro i hi
    rw [show i = 42 by omega]
    refine ia_walk (fun pc => Nat.beq pc 5) 50 (fun X hX => ?_)
    conv => whnf
    refine And.intro (fun c => ?_) (fun c => ?_)
    · exact absurd c (by decide)
    · conv => whnf
      exact hZ
  | succ k ih =>
    intro i hi
    refine ia_walk (fun pc => Nat.beq pc 5) 50 (fun X hX => ?_)
    conv => whnf
    refine And.intro (fun c => ?_) (fun c => ?_)
    · conv => whnf
      refine Exists.intro _ (And.intro (And.intro rfl (by omega)) ?_)
      conv => whnf
      rw [nI_1]
      have e : hsI (hsI h 32 (flF (h.1 32) i v)) 32 (upd (flF (h.1 32) i v) i v) = hsI h 32 (flF (h.1 32) (i + 1) v) := by rw [hsI_same, flF_s]
      exact hX _ (e ▸ ih (i + 1) (by omega) : ia_Run _ _ _ _ (5, _, _, hsI (hsI h 32 (flF (h.1 32) i v)) 32 (upd (flF (h.1 32) i v) i v)))
    · exact absurd (show nI i < 42 from nI_lt (b := 42) (by omega) (by omega)) c
theorem v_fill_begins (h : ia_H) (v : Int32) : V_ 167 [.ref 32, .int v] h (fun r h' => r = none ∧ h' = hsI h 32 (flF (h.1 32) 42 v)) := by
  refine ia_V_in ia_k_J7_fill_53178 [some (.ref 32), some (.int v), none, none] rfl rfl (Nat.le_of_ble_eq_true rfl) rfl ?_
  refine ia_walk (fun pc => Nat.beq pc 5) 50 (fun X hX => ?_)
  conv => whnf
  have lp := l_fill_begins h v (Z := fun r h' => r = none ∧ h' = hsI h 32 (flF (h.1 32) 42 v)) ⟨rfl, rfl⟩ 42 0 rfl
  rw [flF_0, hsI_eta] at lp
  exact hX _ lp
theorem l_fill_sorted (h : ia_H) (v : Int32) {Z : Option Value → ia_H → Prop} (hZ : Z none (hsI h 33 (flF (h.1 33) 41 v))) : ∀ k i : Nat, i + k = 41 → R_ ia_k_J7_fill_53178 Z (5, [some (.ref 33), some (.int v), some (.int (nI i)), some (.int 41)], [], hsI h 33 (flF (h.1 33) i v)) := by
  intro k
  induction k with
  | zero =>
    intro i hi
    rw [show i = 41 by omega]
    refine ia_walk (fun pc => Nat.beq pc 5) 50 (fun X hX => ?_)
    conv => whnf
    refine And.intro (fun c => ?_) (fun c => ?_)
    · exact absurd c (by decide)
    · conv => whnf
      exact hZ
  | succ k ih =>
    intro i hi
    refine ia_walk (fun pc => Nat.beq pc 5) 50 (fun X hX => ?_)
    conv => whnf
    refine And.intro (fun c => ?_) (fun c => ?_)
    · conv => whnf
      refine Exists.intro _ (And.intro (And.intro rfl (by omega)) ?_)
      conv => whnf
      rw [nI_1]
      have e : hsI (hsI h 33 (flF (h.1 33) i v)) 33 (upd (flF (h.1 33) i v) i v) = hsI h 33 (flF (h.1 33) (i + 1) v) := by rw [hsI_same, flF_s]
      exact hX _ (e ▸ ih (i + 1) (by omega) : ia_Run _ _ _ _ (5, _, _, hsI (hsI h 33 (flF (h.1 33) i v)) 33 (upd (flF (h.1 33) i v) i v)))
    · exact absurd (show nI i < 41 from nI_lt (b := 41) (by omega) (by omega)) c
theorem v_fill_sorted (h : ia_H) (v : Int32) : V_ 167 [.ref 33, .int v] h (fun r h' => r = none ∧ h' = hsI h 33 (flF (h.1 33) 41 v)) := by
  refine ia_V_in ia_k_J7_fill_53178 [some (.ref 33), some (.int v), none, none] rfl rfl (Nat.le_of_ble_eq_true rfl) rfl ?_
  refine ia_walk (fun pc => Nat.beq pc 5) 50 (fun X hX => ?_)
  conv => whnf
  have lp := l_fill_sorted h v (Z := fun r h' => r = none ∧ h' = hsI h 33 (flF (h.1 33) 41 v)) ⟨rfl, rfl⟩ 41 0 rfl
  rw [flF_0, hsI_eta] at lp
  exact hX _ lp
theorem l_fill_times (h : ia_H) (v : Int32) {Z : Option Value → ia_H → Prop} (hZ : Z none (hsI h 35 (flF (h.1 35) 120 v))) : ∀ k i : Nat, i + k = 120 → R_ ia_k_J7_fill_53178 Z (5, [some (.ref 35), some (.int v), some (.int (nI i)), some (.int 120)], [], hsI h 35 (flF (h.1 35) i v)) := by
  intro k
  induction k with
  | zero =>
    intro i hi
    rw [show i = 120 by omega]
    refine ia_walk (fun pc => Nat.beq pc 5) 50 (fun X hX => ?_)
    conv => whnf
    refine And.intro (fun c => ?_) (fun c => ?_)
    · exact absurd c (by decide)
    · conv => whnf
      exact hZ
  | succ k ih =>
    intro i hi
    refine ia_walk (fun pc => Nat.beq pc 5) 50 (fun X hX => ?_)
    conv => whnf
    refine And.intro (fun c => ?_) (fun c => ?_)
    · conv => whnf
      refine Exists.intro _ (And.intro (And.intro rfl (by omega)) ?_)
      conv => whnf
      rw [nI_1]
      have e : hsI (hsI h 35 (flF (h.1 35) i v)) 35 (upd (flF (h.1 35) i v) i v) = hsI h 35 (flF (h.1 35) (i + 1) v) := by rw [hsI_same, flF_s]
      exact hX _ (e ▸ ih (i + 1) (by omega) : ia_Run _ _ _ _ (5, _, _, hsI (hsI h 35 (flF (h.1 35) i v)) 35 (upd (flF (h.1 35) i v) i v)))
    · exact absurd (show nI i < 120 from nI_lt (b := 120) (by omega) (by omega)) c
theorem v_fill_times (h : ia_H) (v : Int32) : V_ 167 [.ref 35, .int v] h (fun r h' => r = none ∧ h' = hsI h 35 (flF (h.1 35) 120 v)) := by
  refine ia_V_in ia_k_J7_fill_53178 [some (.ref 35), some (.int v), none, none] rfl rfl (Nat.le_of_ble_eq_true rfl) rfl ?_
  refine ia_walk (fun pc => Nat.beq pc 5) 50 (fun X hX => ?_)
  conv => whnf
  have lp := l_fill_times h v (Z := fun r h' => r = none ∧ h' = hsI h 35 (flF (h.1 35) 120 v)) ⟨rfl, rfl⟩ 120 0 rfl
  rw [flF_0, hsI_eta] at lp
  exact hX _ lp
theorem l_fill_steps (h : ia_H) (v : Int32) {Z : Option Value → ia_H → Prop} (hZ : Z none (hsI h 37 (flF (h.1 37) 41 v))) : ∀ k i : Nat, i + k = 41 → R_ ia_k_J7_fill_53178 Z (5, [some (.ref 37), some (.int v), some (.int (nI i)), some (.int 41)], [], hsI h 37 (flF (h.1 37) i v)) := by
  intro k
  induction k with
  | zero =>
    intro i hi
    rw [show i = 41 by omega]
    refine ia_walk (fun pc => Nat.beq pc 5) 50 (fun X hX => ?_)
    conv => whnf
    refine And.intro (fun c => ?_) (fun c => ?_)
    · exact absurd c (by decide)
    · conv => whnf
      exact hZ
  | succ k ih =>
    intro i hi
    refine ia_walk (fun pc => Nat.beq pc 5) 50 (fun X hX => ?_)
    conv => whnf
    refine And.intro (fun c => ?_) (fun c => ?_)
    · conv => whnf
      refine Exists.intro _ (And.intro (And.intro rfl (by omega)) ?_)
      conv => whnf
      rw [nI_1]
      have e : hsI (hsI h 37 (flF (h.1 37) i v)) 37 (upd (flF (h.1 37) i v) i v) = hsI h 37 (flF (h.1 37) (i + 1) v) := by rw [hsI_same, flF_s]
      exact hX _ (e ▸ ih (i + 1) (by omega) : ia_Run _ _ _ _ (5, _, _, hsI (hsI h 37 (flF (h.1 37) i v)) 37 (upd (flF (h.1 37) i v) i v)))
    · exact absurd (show nI i < 41 from nI_lt (b := 41) (by omega) (by omega)) c
theorem v_fill_steps (h : ia_H) (v : Int32) : V_ 167 [.ref 37, .int v] h (fun r h' => r = none ∧ h' = hsI h 37 (flF (h.1 37) 41 v)) := by
  refine ia_V_in ia_k_J7_fill_53178 [some (.ref 37), some (.int v), none, none] rfl rfl (Nat.le_of_ble_eq_true rfl) rfl ?_
  refine ia_walk (fun pc => Nat.beq pc 5) 50 (fun X hX => ?_)
  conv => whnf
  have lp := l_fill_steps h v (Z := fun r h' => r = none ∧ h' = hsI h 37 (flF (h.1 37) 41 v)) ⟨rfl, rfl⟩ 41 0 rfl
  rw [flF_0, hsI_eta] at lp
  exact hX _ lp
theorem l_fill_flow (h : ia_H) (v : Int32) {Z : Option Value → ia_H → Prop} (hZ : Z none (hsI h 39 (flF (h.1 39) 120 v))) : ∀ k i : Nat, i + k = 120 → R_ ia_k_J7_fill_53178 Z (5, [some (.ref 39), some (.int v), some (.int (nI i)), some (.int 120)], [], hsI h 39 (flF (h.1 39) i v)) := by
  intro k
  induction k with
  | zero =>
    intro i hi
    rw [show i = 120 by omega]
    refine ia_walk (fun pc => Nat.beq pc 5) 50 (fun X hX => ?_)
    conv => whnf
    refine And.intro (fun c => ?_) (fun c => ?_)
    · exact absurd c (by decide)
    · conv => whnf
      exact hZ
  | succ k ih =>
    intro i hi
    refine ia_walk (fun pc => Nat.beq pc 5) 50 (fun X hX => ?_)
    conv => whnf
    refine And.intro (fun c => ?_) (fun c => ?_)
    · conv => whnf
      refine Exists.intro _ (And.intro (And.intro rfl (by omega)) ?_)
      conv => whnf
      rw [nI_1]
      have e : hsI (hsI h 39 (flF (h.1 39) i v)) 39 (upd (flF (h.1 39) i v) i v) = hsI h 39 (flF (h.1 39) (i + 1) v) := by rw [hsI_same, flF_s]
      exact hX _ (e ▸ ih (i + 1) (by omega) : ia_Run _ _ _ _ (5, _, _, hsI (hsI h 39 (flF (h.1 39) i v)) 39 (upd (flF (h.1 39) i v) i v)))
    · exact absurd (show nI i < 120 from nI_lt (b := 120) (by omega) (by omega)) c
theorem v_fill_flow (h : ia_H) (v : Int32) : V_ 167 [.ref 39, .int v] h (fun r h' => r = none ∧ h' = hsI h 39 (flF (h.1 39) 120 v)) := by
  refine ia_V_in ia_k_J7_fill_53178 [some (.ref 39), some (.int v), none, none] rfl rfl (Nat.le_of_ble_eq_true rfl) rfl ?_
  refine ia_walk (fun pc => Nat.beq pc 5) 50 (fun X hX => ?_)
  conv => whnf
  have lp := l_fill_flow h v (Z := fun r h' => r = none ∧ h' = hsI h 39 (flF (h.1 39) 120 v)) ⟨rfl, rfl⟩ 120 0 rfl
  rw [flF_0, hsI_eta] at lp
  exact hX _ lp
theorem l_fill_rely (h : ia_H) (v : Int32) {Z : Option Value → ia_H → Prop} (hZ : Z none (hsI h 42 (flF (h.1 42) 120 v))) : ∀ k i : Nat, i + k = 120 → R_ ia_k_J7_fill_53178 Z (5, [some (.ref 42), some (.int v), some (.int (nI i)), some (.int 120)], [], hsI h 42 (flF (h.1 42) i v)) := by
  intro k
  induction k with
  | zero =>
    intro i hi
    rw [show i = 120 by omega]
    refine ia_walk (fun pc => Nat.beq pc 5) 50 (fun X hX => ?_)
    conv => whnf
    refine And.intro (fun c => ?_) (fun c => ?_)
    · exact absurd c (by decide)
    · conv => whnf
      exact hZ
  | succ k ih =>
    intro i hi
    refine ia_walk (fun pc => Nat.beq pc 5) 50 (fun X hX => ?_)
    conv => whnf
    refine And.intro (fun c => ?_) (fun c => ?_)
    · conv => whnf
      refine Exists.intro _ (And.intro (And.intro rfl (by omega)) ?_)
      conv => whnf
      rw [nI_1]
      have e : hsI (hsI h 42 (flF (h.1 42) i v)) 42 (upd (flF (h.1 42) i v) i v) = hsI h 42 (flF (h.1 42) (i + 1) v) := by rw [hsI_same, flF_s]
      exact hX _ (e ▸ ih (i + 1) (by omega) : ia_Run _ _ _ _ (5, _, _, hsI (hsI h 42 (flF (h.1 42) i v)) 42 (upd (flF (h.1 42) i v) i v)))
    · exact absurd (show nI i < 120 from nI_lt (b := 120) (by omega) (by omega)) c
theorem v_fill_rely (h : ia_H) (v : Int32) : V_ 167 [.ref 42, .int v] h (fun r h' => r = none ∧ h' = hsI h 42 (flF (h.1 42) 120 v)) := by
  refine ia_V_in ia_k_J7_fill_53178 [some (.ref 42), some (.int v), none, none] rfl rfl (Nat.le_of_ble_eq_true rfl) rfl ?_
  refine ia_walk (fun pc => Nat.beq pc 5) 50 (fun X hX => ?_)
  conv => whnf
  have lp := l_fill_rely h v (Z := fun r h' => r = none ∧ h' = hsI h 42 (flF (h.1 42) 120 v)) ⟨rfl, rfl⟩ 120 0 rfl
  rw [flF_0, hsI_eta] at lp
  exact hX _ lp
