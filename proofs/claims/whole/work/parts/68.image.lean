/-! images of the class: becomeLike, image, back -/
theorem byF {x : Int32} (h : byR x) : fits .byte (.int x) = true := by
  show (decide (-128 ≤ x) && decide (x ≤ 127)) = true
  rw [Bool.and_eq_true, decide_eq_true_eq, decide_eq_true_eq, Int32.le_iff_toInt_le, Int32.le_iff_toInt_le]
  exact h
def ltB (h : ia_H) (c : Nat) : Prop := ∀ j, j < 246 → byR (h.1 (c + 1) j)
def frL (c : Nat) (h H : ia_H) : Prop := (∀ y, (y < c ∨ c + 6 < y) → H.1 y = h.1 y) ∧ ∀ y, y ≠ c + 5 → H.2 y = h.2 y
theorem narO (b : Bool) : vp_nar .boolean (oI b) = oI b := by cases b <;> rfl
theorem v_draft4 (h : ia_H) (s : Nat) (hs : s < 120) (a b : Int32) (m : Int64) : V_ 39 [.ref 4, .int (nI s), .int a, .int b, .long m] h (fun r h' => r = none ∧ h' = hsI (hsL (hsI (hsI h 7 (upd (h.1 7) s a)) 8 (upd (h.1 8) s b)) 9 (vp_updL (h.2 9) s m)) 10 (upd (h.1 10) s 0)) := by
  refine ia_V_in ia_k_X5_draftStatement [some (.ref 4), some (.int (nI s)), some (.int a), some (.int b), some (.long m), none] rfl rfl (Nat.le_of_ble_eq_true rfl) rfl ?_
  refine ia_walk (fun _ => false) 60 (fun X hX => ?_)
  conv => whnf
  refine Exists.intro _ (And.intro (And.intro rfl (hs)) ?_)
  conv => whnf
  refine Exists.intro _ (And.intro (And.intro rfl (hs)) ?_)
  conv => whnf
  refine Exists.intro _ (And.intro (And.intro rfl (hs)) ?_)
  conv => whnf
  refine Exists.intro _ (And.intro (And.intro rfl (hs)) ?_)
  conv => whnf
  exact ⟨rfl, rfl⟩
theorem v_draft11 (h : ia_H) (s : Nat) (hs : s < 120) (a b : Int32) (m : Int64) : V_ 39 [.ref 11, .int (nI s), .int a, .int b, .long m] h (fun r h' => r = none ∧ h' = hsI (hsL (hsI (hsI h 14 (upd (h.1 14) s a)) 15 (upd (h.1 15) s b)) 16 (vp_updL (h.2 16) s m)) 17 (upd (h.1 17) s 0)) := by
  refine ia_V_in ia_k_X5_draftStatement [some (.ref 11), some (.int (nI s)), some (.int a), some (.int b), some (.long m), none] rfl rfl (Nat.le_of_ble_eq_true rfl) rfl ?_
  refine ia_walk (fun _ => false) 60 (fun X hX => ?_)
  conv => whnf
  refine Exists.intro _ (And.intro (And.intro rfl (hs)) ?_)
  conv => whnf
  refine Exists.intro _ (And.intro (And.intro rfl (hs)) ?_)
  conv => whnf
  refine Exists.intro _ (And.intro (And.intro rfl (hs)) ?_)
  conv => whnf
  refine Exists.intro _ (And.intro (And.intro rfl (hs)) ?_)
  conv => whnf
  exact ⟨rfl, rfl⟩
theorem v_draft18 (h : ia_H) (s : Nat) (hs : s < 120) (a b : Int32) (m : Int64) : V_ 39 [.ref 18, .int (nI s), .int a, .int b, .long m] h (fun r h' => r = none ∧ h' = hsI (hsL (hsI (hsI h 21 (upd (h.1 21) s a)) 22 (upd (h.1 22) s b)) 23 (vp_updL (h.2 23) s m)) 24 (upd (h.1 24) s 0)) := by
  refine ia_V_in ia_k_X5_draftStatement [some (.ref 18), some (.int (nI s)), some (.int a), some (.int b), some (.long m), none] rfl rfl (Nat.le_of_ble_eq_true rfl) rfl ?_
  refine ia_walk (fun _ => false) 60 (fun X hX => ?_)
  conv => whnf
  refine Exists.intro _ (And.intro (And.intro rfl (hs)) ?_)
  conv => whnf
  refine Exists.intro _ (And.intro (And.intro rfl (hs)) ?_)
  conv => whnf
  refine Exists.intro _ (And.intro (And.intro rfl (hs)) ?_)
  conv => whnf
  refine Exists.intro _ (And.intro (And.intro rfl (hs)) ?_)
  conv => whnf
  exact ⟨rfl, rfl⟩
theorem l_like11_4 (h : ia_H) (n : Nat) (hn : n ≤ 120) {Z : Option Value → ia_H → Prop} (hZ : ∀ H, (∀ y, y ≠ 14 → y ≠ 15 → y ≠ 17 → H.1 y = h.1 y) → (∀ y, y ≠ 16 → H.2 y = h.2 y) → (∀ j, j < n → H.1 14 j = h.1 7 j ∧ H.1 15 j = h.1 8 j ∧ H.2 16 j = h.2 9 j ∧ H.1 17 j = vp_nar .boolean (h.1 10 j)) → Z none H) (en : h.1 11 7 = nI n) :
    ∀ (k s : Nat) (H : ia_H), s + k = n → (∀ y, y ≠ 14 → y ≠ 15 → y ≠ 17 → H.1 y = h.1 y) → (∀ y, y ≠ 16 → H.2 y = h.2 y) → (∀ j, j < s → H.1 14 j = h.1 7 j ∧ H.1 15 j = h.1 8 j ∧ H.2 16 j = h.2 9 j ∧ H.1 17 j = vp_nar .boolean (h.1 10 j)) → R_ ia_k_X5_becomeLike Z (54, [some (.ref 11), some (.ref 4), some (.int (nI s))], [], H) := by
  intro k
  induction k with
  | zero =>
    intro s H hk f1 f2 f3
    have hk : s = n := by omega
    subst hk
    have e7 : H.1 11 7 = nI s := by rw [f1 11 (by decide) (by decide) (by decide)]; exact en
    refine ia_walk (fun pc => Nat.beq pc 54) 60 (fun X hX => ?_)
    conv => whnf
    refine And.intro (fun q => ?_) (fun q => ?_)
    · exact absurd (show nI s < H.1 11 7 from q) (by rw [e7]; exact nI_nlt (Nat.le_refl _) (by omega))
    · conv => whnf
      exact hZ H f1 f2 f3
  | succ k ih =>
    intro s H hk f1 f2 f3
    have hs : s < 120 := by omega
    have e7 : H.1 11 7 = nI n := by rw [f1 11 (by decide) (by decide) (by decide)]; exact en
    refine ia_walk (fun pc => Nat.beq pc 54) 60 (fun X hX => ?_)
    conv => whnf
    refine And.intro (fun q => ?_) (fun q => ?_)
    · conv => whnf
      refine Exists.intro _ (And.intro (And.intro rfl (hs)) ?_)
      conv => whnf
      refine Exists.intro _ (And.intro (And.intro rfl (hs)) ?_)
      conv => whnf
      refine Exists.intro _ (And.intro (And.intro rfl (hs)) ?_)
      conv => whnf
      refine Exists.intro (_, _) (And.intro (ia_callE (v_draft11 H s hs (H.1 7 s) (H.1 8 s) (H.2 9 s))) ?_)
      conv => whnf
      refine Exists.intro _ (And.intro (And.intro rfl (hs)) ?_)
      conv => whnf
      refine Exists.intro _ (And.intro (And.intro rfl (hs)) ?_)
      conv => whnf
      rw [nI_1]
      refine hX _ (ih (s + 1) _ (by omega) (fun y h1 h2 h3 => ?_) (fun y h1 => ?_) (fun j hj => ?_))
      · rw [← f1 y h1 h2 h3]
        show (if y = 17 then _ else if y = 17 then _ else if y = 15 then _ else if y = 14 then _ else H.1 y) = H.1 y
        rw [if_neg h3, if_neg h3, if_neg h2, if_neg h1]
      · rw [← f2 y h1]
        show (if y = 16 then _ else H.2 y) = H.2 y
        rw [if_neg h1]
      · have g3 := f1 7 (by decide) (by decide) (by decide)
        have g4 := f1 8 (by decide) (by decide) (by decide)
        have g6 := f1 10 (by decide) (by decide) (by decide)
        have g5 := f2 9 (by decide)
        show upd (H.1 14) s (H.1 7 s) j = _ ∧ upd (H.1 15) s (H.1 8 s) j = _ ∧ vp_updL (H.2 16) s (H.2 9 s) j = _ ∧ upd (upd (H.1 17) s 0) s (vp_nar .boolean (H.1 10 s)) j = _
        by_cases hjs : j = s
        · subst hjs
          rw [updp, updp, updp, show vp_updL (H.2 16) j (H.2 9 j) j = H.2 9 j from if_pos rfl, g3, g4, g5, g6]
          exact ⟨rfl, rfl, rfl, rfl⟩
        · rw [updn hjs, updn hjs, updn hjs, updn hjs, show vp_updL (H.2 16) s (H.2 9 s) j = H.2 16 j from if_neg hjs]
          exact f3 j (by omega)
    · exact absurd (show nI s < H.1 11 7 by rw [e7]; exact nI_lt (by omega) (by omega)) q
theorem v_like11_4 {h : ia_H} {t : tdT} (hok : tdOk t) (hr : cRep h 4 t) (hl : ltB h 4) : V_ 40 [.ref 11, .ref 4] h (fun r h' => r = none ∧ cRep h' 11 t ∧ ltB h' 11 ∧ frL 11 h h') := by
  obtain ⟨o1, o2, o3, o4, o5⟩ := hok
  obtain ⟨r1, r2, r3, r4, r5⟩ := hr
  have r1 : h.1 4 6 = nI (tdG t) := r1
  have r2 : h.1 4 7 = nI (tdN t) := r2
  refine ia_V_in ia_k_X5_becomeLike [some (.ref 11), some (.ref 4), none] rfl rfl (Nat.le_of_ble_eq_true rfl) rfl ?_
  refine ia_walk (fun pc => Nat.beq pc 54) 60 (fun X hX => ?_)
  conv => whnf
  refine Exists.intro ⟨by decide, by decide, by decide, by decide, by decide, fun i hi => byF ?_⟩ ?_
  · have hi : i < 246 := hi
    have := hl i hi
    show byR (h.1 5 (0 + i))
    rw [Nat.zero_add]
    exact this
  conv => whnf
  refine Exists.intro ⟨by decide, by decide, by decide, by decide, by decide⟩ ?_
  conv => whnf
  obtain ⟨K, hK⟩ : ∃ K : ia_H, ((ia_cpI (ia_cpI (ia_uI (ia_uI h.1 11 6 (h.1 4 6)) 11 7 (ia_uI h.1 11 6 (h.1 4 6) 4 7)) 5 12 0 0 246) 6 13 0 0 41, h.2) : ia_H) = K := ⟨_, rfl⟩
  have k0 : ∀ y, (y < 11 ∨ 11 + 6 < y) → K.1 y = h.1 y := fun y hy => by
    rw [← hK]
    show (if y = 13 then _ else if y = 12 then _ else if y = 11 then _ else if y = 11 then _ else h.1 y) = h.1 y
    rw [if_neg (by omega), if_neg (by omega), if_neg (by omega), if_neg (by omega)]
  have k1 : K.1 11 6 = nI (tdG t) := by rw [← hK]; exact r1
  have k2 : K.1 11 7 = nI (tdN t) := by rw [← hK]; exact r2
  have k3 : ∀ j, j < 246 → K.1 12 j = h.1 5 j := fun j hj => by
    rw [← hK]
    show (if 0 ≤ j ∧ j < 0 + 246 then h.1 5 (0 + (j - 0)) else _) = _
    rw [if_pos (by omega), show 0 + (j - 0) = j by omega]
  have k4 : ∀ j, j < 41 → K.1 13 j = h.1 6 j := fun j hj => by
    rw [← hK]
    show (if 0 ≤ j ∧ j < 0 + 41 then h.1 6 (0 + (j - 0)) else _) = _
    rw [if_pos (by omega), show 0 + (j - 0) = j by omega]
  have k5 : K.2 = h.2 := by rw [← hK]
  have kd : ∀ y, 4 ≤ y → y ≤ 4 + 6 → K.1 y = h.1 y := fun y q1 q2 => k0 y (by omega)
  have lp := l_like11_4 K (tdN t) o3 (Z := fun r h' => r = none ∧ cRep h' 11 t ∧ ltB h' 11 ∧ frL 11 h h') (fun H f1 f2 f3 => ?_) k2 (tdN t) 0 K (by omega) (fun _ _ _ _ => rfl) (fun _ _ => rfl) (fun j hj => absurd hj (Nat.not_lt_zero j))
  · rw [← hK] at lp
    exact hX _ lp
  · refine ⟨rfl, ⟨?_, ?_, ?_, fun g g1 g2 => ?_, fun s hs => ?_⟩, fun j hj => ?_, fun y hy => ?_, fun y hy => ?_⟩
    · rw [f1 11 (by decide) (by decide) (by decide)]; exact k1
    · rw [f1 11 (by decide) (by decide) (by decide)]; exact k2
    · show H.1 13 0 = 0
      rw [f1 13 (by decide) (by decide) (by decide), k4 0 (by decide)]
      exact r3
    · obtain ⟨q1, q2⟩ := r4 g g1 g2
      obtain ⟨w1, w2, -⟩ := o4 g g1 g2
      show H.1 13 g = _ ∧ ∀ k, _ → H.1 12 (6 * g + k) = _
      rw [f1 13 (by decide) (by decide) (by decide), f1 12 (by decide) (by decide) (by decide), k4 g (by omega)]
      exact ⟨q1, fun k hk => by rw [k3 _ (by omega)]; exact q2 k hk⟩
    · obtain ⟨q1, q2, q3, q4⟩ := r5 s hs
      obtain ⟨w1, w2, w3, w4⟩ := f3 s hs
      show H.1 14 s = _ ∧ H.1 15 s = _ ∧ H.2 16 s = _ ∧ H.1 17 s = _
      rw [w1, w2, w3, w4, kd 7 (by decide) (by decide), kd 8 (by decide) (by decide), kd 10 (by decide) (by decide), k5]
      refine ⟨q1, q2, q3, ?_⟩
      have q4 : h.1 10 s = oI (tdO t s) := q4
      rw [q4, narO]
    · show byR (H.1 12 j)
      rw [f1 12 (by decide) (by decide) (by decide), k3 j hj]
      exact hl j hj
    · rw [f1 y (by omega) (by omega) (by omega)]
      exact k0 y hy
    · rw [f2 y (by omega), k5]
theorem l_like18_4 (h : ia_H) (n : Nat) (hn : n ≤ 120) {Z : Option Value → ia_H → Prop} (hZ : ∀ H, (∀ y, y ≠ 21 → y ≠ 22 → y ≠ 24 → H.1 y = h.1 y) → (∀ y, y ≠ 23 → H.2 y = h.2 y) → (∀ j, j < n → H.1 21 j = h.1 7 j ∧ H.1 22 j = h.1 8 j ∧ H.2 23 j = h.2 9 j ∧ H.1 24 j = vp_nar .boolean (h.1 10 j)) → Z none H) (en : h.1 18 7 = nI n) :
    ∀ (k s : Nat) (H : ia_H), s + k = n → (∀ y, y ≠ 21 → y ≠ 22 → y ≠ 24 → H.1 y = h.1 y) → (∀ y, y ≠ 23 → H.2 y = h.2 y) → (∀ j, j < s → H.1 21 j = h.1 7 j ∧ H.1 22 j = h.1 8 j ∧ H.2 23 j = h.2 9 j ∧ H.1 24 j = vp_nar .boolean (h.1 10 j)) → R_ ia_k_X5_becomeLike Z (54, [some (.ref 18), some (.ref 4), some (.int (nI s))], [], H) := by
  intro k
  induction k with
  | zero =>
    intro s H hk f1 f2 f3
    have hk : s = n := by omega
    subst hk
    have e7 : H.1 18 7 = nI s := by rw [f1 18 (by decide) (by decide) (by decide)]; exact en
    refine ia_walk (fun pc => Nat.beq pc 54) 60 (fun X hX => ?_)
    conv => whnf
    refine And.intro (fun q => ?_) (fun q => ?_)
    · exact absurd (show nI s < H.1 18 7 from q) (by rw [e7]; exact nI_nlt (Nat.le_refl _) (by omega))
    · conv => whnf
      exact hZ H f1 f2 f3
  | succ k ih =>
    intro s H hk f1 f2 f3
    have hs : s < 120 := by omega
    have e7 : H.1 18 7 = nI n := by rw [f1 18 (by decide) (by decide) (by decide)]; exact en
    refine ia_walk (fun pc => Nat.beq pc 54) 60 (fun X hX => ?_)
    conv => whnf
    refine And.intro (fun q => ?_) (fun q => ?_)
    · conv => whnf
      refine Exists.intro _ (And.intro (And.intro rfl (hs)) ?_)
      conv => whnf
      refine Exists.intro _ (And.intro (And.intro rfl (hs)) ?_)
      conv => whnf
      refine Exists.intro _ (And.intro (And.intro rfl (hs)) ?_)
      conv => whnf
      refine Exists.intro (_, _) (And.intro (ia_callE (v_draft18 H s hs (H.1 7 s) (H.1 8 s) (H.2 9 s))) ?_)
      conv => whnf
      refine Exists.intro _ (And.intro (And.intro rfl (hs)) ?_)
      conv => whnf
      refine Exists.intro _ (And.intro (And.intro rfl (hs)) ?_)
      conv => whnf
      rw [nI_1]
      refine hX _ (ih (s + 1) _ (by omega) (fun y h1 h2 h3 => ?_) (fun y h1 => ?_) (fun j hj => ?_))
      · rw [← f1 y h1 h2 h3]
        show (if y = 24 then _ else if y = 24 then _ else if y = 22 then _ else if y = 21 then _ else H.1 y) = H.1 y
        rw [if_neg h3, if_neg h3, if_neg h2, if_neg h1]
      · rw [← f2 y h1]
        show (if y = 23 then _ else H.2 y) = H.2 y
        rw [if_neg h1]
      · have g3 := f1 7 (by decide) (by decide) (by decide)
        have g4 := f1 8 (by decide) (by decide) (by decide)
        have g6 := f1 10 (by decide) (by decide) (by decide)
        have g5 := f2 9 (by decide)
        show upd (H.1 21) s (H.1 7 s) j = _ ∧ upd (H.1 22) s (H.1 8 s) j = _ ∧ vp_updL (H.2 23) s (H.2 9 s) j = _ ∧ upd (upd (H.1 24) s 0) s (vp_nar .boolean (H.1 10 s)) j = _
        by_cases hjs : j = s
        · subst hjs
          rw [updp, updp, updp, show vp_updL (H.2 23) j (H.2 9 j) j = H.2 9 j from if_pos rfl, g3, g4, g5, g6]
          exact ⟨rfl, rfl, rfl, rfl⟩
        · rw [updn hjs, updn hjs, updn hjs, updn hjs, show vp_updL (H.2 23) s (H.2 9 s) j = H.2 23 j from if_neg hjs]
          exact f3 j (by omega)
    · exact absurd (show nI s < H.1 18 7 by rw [e7]; exact nI_lt (by omega) (by omega)) q
theorem v_like18_4 {h : ia_H} {t : tdT} (hok : tdOk t) (hr : cRep h 4 t) (hl : ltB h 4) : V_ 40 [.ref 18, .ref 4] h (fun r h' => r = none ∧ cRep h' 18 t ∧ ltB h' 18 ∧ frL 18 h h') := by
  obtain ⟨o1, o2, o3, o4, o5⟩ := hok
  obtain ⟨r1, r2, r3, r4, r5⟩ := hr
  have r1 : h.1 4 6 = nI (tdG t) := r1
  have r2 : h.1 4 7 = nI (tdN t) := r2
  refine ia_V_in ia_k_X5_becomeLike [some (.ref 18), some (.ref 4), none] rfl rfl (Nat.le_of_ble_eq_true rfl) rfl ?_
  refine ia_walk (fun pc => Nat.beq pc 54) 60 (fun X hX => ?_)
  conv => whnf
  refine Exists.intro ⟨by decide, by decide, by decide, by decide, by decide, fun i hi => byF ?_⟩ ?_
  · have hi : i < 246 := hi
    have := hl i hi
    show byR (h.1 5 (0 + i))
    rw [Nat.zero_add]
    exact this
  conv => whnf
  refine Exists.intro ⟨by decide, by decide, by decide, by decide, by decide⟩ ?_
  conv => whnf
  obtain ⟨K, hK⟩ : ∃ K : ia_H, ((ia_cpI (ia_cpI (ia_uI (ia_uI h.1 18 6 (h.1 4 6)) 18 7 (ia_uI h.1 18 6 (h.1 4 6) 4 7)) 5 19 0 0 246) 6 20 0 0 41, h.2) : ia_H) = K := ⟨_, rfl⟩
  have k0 : ∀ y, (y < 18 ∨ 18 + 6 < y) → K.1 y = h.1 y := fun y hy => by
    rw [← hK]
    show (if y = 20 then _ else if y = 19 then _ else if y = 18 then _ else if y = 18 then _ else h.1 y) = h.1 y
    rw [if_neg (by omega), if_neg (by omega), if_neg (by omega), if_neg (by omega)]
  have k1 : K.1 18 6 = nI (tdG t) := by rw [← hK]; exact r1
  have k2 : K.1 18 7 = nI (tdN t) := by rw [← hK]; exact r2
  have k3 : ∀ j, j < 246 → K.1 19 j = h.1 5 j := fun j hj => by
    rw [← hK]
    show (if 0 ≤ j ∧ j < 0 + 246 then h.1 5 (0 + (j - 0)) else _) = _
    rw [if_pos (by omega), show 0 + (j - 0) = j by omega]
  have k4 : ∀ j, j < 41 → K.1 20 j = h.1 6 j := fun j hj => by
    rw [← hK]
    show (if 0 ≤ j ∧ j < 0 + 41 then h.1 6 (0 + (j - 0)) else _) = _
    rw [if_pos (by omega), show 0 + (j - 0) = j by omega]
  have k5 : K.2 = h.2 := by rw [← hK]
  have kd : ∀ y, 4 ≤ y → y ≤ 4 + 6 → K.1 y = h.1 y := fun y q1 q2 => k0 y (by omega)
  have lp := l_like18_4 K (tdN t) o3 (Z := fun r h' => r = none ∧ cRep h' 18 t ∧ ltB h' 18 ∧ frL 18 h h') (fun H f1 f2 f3 => ?_) k2 (tdN t) 0 K (by omega) (fun _ _ _ _ => rfl) (fun _ _ => rfl) (fun j hj => absurd hj (Nat.not_lt_zero j))
  · rw [← hK] at lp
    exact hX _ lp
  · refine ⟨rfl, ⟨?_, ?_, ?_, fun g g1 g2 => ?_, fun s hs => ?_⟩, fun j hj => ?_, fun y hy => ?_, fun y hy => ?_⟩
    · rw [f1 18 (by decide) (by decide) (by decide)]; exact k1
    · rw [f1 18 (by decide) (by decide) (by decide)]; exact k2
    · show H.1 20 0 = 0
      rw [f1 20 (by decide) (by decide) (by decide), k4 0 (by decide)]
      exact r3
    · obtain ⟨q1, q2⟩ := r4 g g1 g2
      obtain ⟨w1, w2, -⟩ := o4 g g1 g2
      show H.1 20 g = _ ∧ ∀ k, _ → H.1 19 (6 * g + k) = _
      rw [f1 20 (by decide) (by decide) (by decide), f1 19 (by decide) (by decide) (by decide), k4 g (by omega)]
      exact ⟨q1, fun k hk => by rw [k3 _ (by omega)]; exact q2 k hk⟩
    · obtain ⟨q1, q2, q3, q4⟩ := r5 s hs
      obtain ⟨w1, w2, w3, w4⟩ := f3 s hs
      show H.1 21 s = _ ∧ H.1 22 s = _ ∧ H.2 23 s = _ ∧ H.1 24 s = _
      rw [w1, w2, w3, w4, kd 7 (by decide) (by decide), kd 8 (by decide) (by decide), kd 10 (by decide) (by decide), k5]
      refine ⟨q1, q2, q3, ?_⟩
      have q4 : h.1 10 s = oI (tdO t s) := q4
      rw [q4, narO]
    · show byR (H.1 19 j)
      rw [f1 19 (by decide) (by decide) (by decide), k3 j hj]
      exact hl j hj
    · rw [f1 y (by omega) (by omega) (by omega)]
      exact k0 y hy
    · rw [f2 y (by omega), k5]
theorem l_like4_11 (h : ia_H) (n : Nat) (hn : n ≤ 120) {Z : Option Value → ia_H → Prop} (hZ : ∀ H, (∀ y, y ≠ 7 → y ≠ 8 → y ≠ 10 → H.1 y = h.1 y) → (∀ y, y ≠ 9 → H.2 y = h.2 y) → (∀ j, j < n → H.1 7 j = h.1 14 j ∧ H.1 8 j = h.1 15 j ∧ H.2 9 j = h.2 16 j ∧ H.1 10 j = vp_nar .boolean (h.1 17 j)) → Z none H) (en : h.1 4 7 = nI n) :
    ∀ (k s : Nat) (H : ia_H), s + k = n → (∀ y, y ≠ 7 → y ≠ 8 → y ≠ 10 → H.1 y = h.1 y) → (∀ y, y ≠ 9 → H.2 y = h.2 y) → (∀ j, j < s → H.1 7 j = h.1 14 j ∧ H.1 8 j = h.1 15 j ∧ H.2 9 j = h.2 16 j ∧ H.1 10 j = vp_nar .boolean (h.1 17 j)) → R_ ia_k_X5_becomeLike Z (54, [some (.ref 4), some (.ref 11), some (.int (nI s))], [], H) := by
  intro k
  induction k with
  | zero =>
    intro s H hk f1 f2 f3
    have hk : s = n := by omega
    subst hk
    have e7 : H.1 4 7 = nI s := by rw [f1 4 (by decide) (by decide) (by decide)]; exact en
    refine ia_walk (fun pc => Nat.beq pc 54) 60 (fun X hX => ?_)
    conv => whnf
    refine And.intro (fun q => ?_) (fun q => ?_)
    · exact absurd (show nI s < H.1 4 7 from q) (by rw [e7]; exact nI_nlt (Nat.le_refl _) (by omega))
    · conv => whnf
      exact hZ H f1 f2 f3
  | succ k ih =>
    intro s H hk f1 f2 f3
    have hs : s < 120 := by omega
    have e7 : H.1 4 7 = nI n := by rw [f1 4 (by decide) (by decide) (by decide)]; exact en
    refine ia_walk (fun pc => Nat.beq pc 54) 60 (fun X hX => ?_)
    conv => whnf
    refine And.intro (fun q => ?_) (fun q => ?_)
    · conv => whnf
      refine Exists.intro _ (And.intro (And.intro rfl (hs)) ?_)
      conv => whnf
      refine Exists.intro _ (And.intro (And.intro rfl (hs)) ?_)
      conv => whnf
      refine Exists.intro _ (And.intro (And.intro rfl (hs)) ?_)
      conv => whnf
      refine Exists.intro (_, _) (And.intro (ia_callE (v_draft4 H s hs (H.1 14 s) (H.1 15 s) (H.2 16 s))) ?_)
      conv => whnf
      refine Exists.intro _ (And.intro (And.intro rfl (hs)) ?_)
      conv => whnf
      refine Exists.intro _ (And.intro (And.intro rfl (hs)) ?_)
      conv => whnf
      rw [nI_1]
      refine hX _ (ih (s + 1) _ (by omega) (fun y h1 h2 h3 => ?_) (fun y h1 => ?_) (fun j hj => ?_))
      · rw [← f1 y h1 h2 h3]
        show (if y = 10 then _ else if y = 10 then _ else if y = 8 then _ else if y = 7 then _ else H.1 y) = H.1 y
        rw [if_neg h3, if_neg h3, if_neg h2, if_neg h1]
      · rw [← f2 y h1]
        show (if y = 9 then _ else H.2 y) = H.2 y
        rw [if_neg h1]
      · have g3 := f1 14 (by decide) (by decide) (by decide)
        have g4 := f1 15 (by decide) (by decide) (by decide)
        have g6 := f1 17 (by decide) (by decide) (by decide)
        have g5 := f2 16 (by decide)
        show upd (H.1 7) s (H.1 14 s) j = _ ∧ upd (H.1 8) s (H.1 15 s) j = _ ∧ vp_updL (H.2 9) s (H.2 16 s) j = _ ∧ upd (upd (H.1 10) s 0) s (vp_nar .boolean (H.1 17 s)) j = _
        by_cases hjs : j = s
        · subst hjs
          rw [updp, updp, updp, show vp_updL (H.2 9) j (H.2 16 j) j = H.2 16 j from if_pos rfl, g3, g4, g5, g6]
          exact ⟨rfl, rfl, rfl, rfl⟩
        · rw [updn hjs, updn hjs, updn hjs, updn hjs, show vp_updL (H.2 9) s (H.2 16 s) j = H.2 9 j from if_neg hjs]
          exact f3 j (by omega)
    · exact absurd (show nI s < H.1 4 7 by rw [e7]; exact nI_lt (by omega) (by omega)) q
theorem v_like4_11 {h : ia_H} {t : tdT} (hok : tdOk t) (hr : cRep h 11 t) (hl : ltB h 11) : V_ 40 [.ref 4, .ref 11] h (fun r h' => r = none ∧ cRep h' 4 t ∧ ltB h' 4 ∧ frL 4 h h') := by
  obtain ⟨o1, o2, o3, o4, o5⟩ := hok
  obtain ⟨r1, r2, r3, r4, r5⟩ := hr
  have r1 : h.1 11 6 = nI (tdG t) := r1
  have r2 : h.1 11 7 = nI (tdN t) := r2
  refine ia_V_in ia_k_X5_becomeLike [some (.ref 4), some (.ref 11), none] rfl rfl (Nat.le_of_ble_eq_true rfl) rfl ?_
  refine ia_walk (fun pc => Nat.beq pc 54) 60 (fun X hX => ?_)
  conv => whnf
  refine Exists.intro ⟨by decide, by decide, by decide, by decide, by decide, fun i hi => byF ?_⟩ ?_
  · have hi : i < 246 := hi
    have := hl i hi
    show byR (h.1 12 (0 + i))
    rw [Nat.zero_add]
    exact this
  conv => whnf
  refine Exists.intro ⟨by decide, by decide, by decide, by decide, by decide⟩ ?_
  conv => whnf
  obtain ⟨K, hK⟩ : ∃ K : ia_H, ((ia_cpI (ia_cpI (ia_uI (ia_uI h.1 4 6 (h.1 11 6)) 4 7 (ia_uI h.1 4 6 (h.1 11 6) 11 7)) 12 5 0 0 246) 13 6 0 0 41, h.2) : ia_H) = K := ⟨_, rfl⟩
  have k0 : ∀ y, (y < 4 ∨ 4 + 6 < y) → K.1 y = h.1 y := fun y hy => by
    rw [← hK]
    show (if y = 6 then _ else if y = 5 then _ else if y = 4 then _ else if y = 4 then _ else h.1 y) = h.1 y
    rw [if_neg (by omega), if_neg (by omega), if_neg (by omega), if_neg (by omega)]
  have k1 : K.1 4 6 = nI (tdG t) := by rw [← hK]; exact r1
  have k2 : K.1 4 7 = nI (tdN t) := by rw [← hK]; exact r2
  have k3 : ∀ j, j < 246 → K.1 5 j = h.1 12 j := fun j hj => by
    rw [← hK]
    show (if 0 ≤ j ∧ j < 0 + 246 then h.1 12 (0 + (j - 0)) else _) = _
    rw [if_pos (by omega), show 0 + (j - 0) = j by omega]
  have k4 : ∀ j, j < 41 → K.1 6 j = h.1 13 j := fun j hj => by
    rw [← hK]
    show (if 0 ≤ j ∧ j < 0 + 41 then h.1 13 (0 + (j - 0)) else _) = _
    rw [if_pos (by omega), show 0 + (j - 0) = j by omega]
  have k5 : K.2 = h.2 := by rw [← hK]
  have kd : ∀ y, 11 ≤ y → y ≤ 11 + 6 → K.1 y = h.1 y := fun y q1 q2 => k0 y (by omega)
  have lp := l_like4_11 K (tdN t) o3 (Z := fun r h' => r = none ∧ cRep h' 4 t ∧ ltB h' 4 ∧ frL 4 h h') (fun H f1 f2 f3 => ?_) k2 (tdN t) 0 K (by omega) (fun _ _ _ _ => rfl) (fun _ _ => rfl) (fun j hj => absurd hj (Nat.not_lt_zero j))
  · rw [← hK] at lp
    exact hX _ lp
  · refine ⟨rfl, ⟨?_, ?_, ?_, fun g g1 g2 => ?_, fun s hs => ?_⟩, fun j hj => ?_, fun y hy => ?_, fun y hy => ?_⟩
    · rw [f1 4 (by decide) (by decide) (by decide)]; exact k1
    · rw [f1 4 (by decide) (by decide) (by decide)]; exact k2
    · show H.1 6 0 = 0
      rw [f1 6 (by decide) (by decide) (by decide), k4 0 (by decide)]
      exact r3
    · obtain ⟨q1, q2⟩ := r4 g g1 g2
      obtain ⟨w1, w2, -⟩ := o4 g g1 g2
      show H.1 6 g = _ ∧ ∀ k, _ → H.1 5 (6 * g + k) = _
      rw [f1 6 (by decide) (by decide) (by decide), f1 5 (by decide) (by decide) (by decide), k4 g (by omega)]
      exact ⟨q1, fun k hk => by rw [k3 _ (by omega)]; exact q2 k hk⟩
    · obtain ⟨q1, q2, q3, q4⟩ := r5 s hs
      obtain ⟨w1, w2, w3, w4⟩ := f3 s hs
      show H.1 7 s = _ ∧ H.1 8 s = _ ∧ H.2 9 s = _ ∧ H.1 10 s = _
      rw [w1, w2, w3, w4, kd 14 (by decide) (by decide), kd 15 (by decide) (by decide), kd 17 (by decide) (by decide), k5]
      refine ⟨q1, q2, q3, ?_⟩
      have q4 : h.1 17 s = oI (tdO t s) := q4
      rw [q4, narO]
    · show byR (H.1 5 j)
      rw [f1 5 (by decide) (by decide) (by decide), k3 j hj]
      exact hl j hj
    · rw [f1 y (by omega) (by omega) (by omega)]
      exact k0 y hy
    · rw [f2 y (by omega), k5]
theorem l_like4_18 (h : ia_H) (n : Nat) (hn : n ≤ 120) {Z : Option Value → ia_H → Prop} (hZ : ∀ H, (∀ y, y ≠ 7 → y ≠ 8 → y ≠ 10 → H.1 y = h.1 y) → (∀ y, y ≠ 9 → H.2 y = h.2 y) → (∀ j, j < n → H.1 7 j = h.1 21 j ∧ H.1 8 j = h.1 22 j ∧ H.2 9 j = h.2 23 j ∧ H.1 10 j = vp_nar .boolean (h.1 24 j)) → Z none H) (en : h.1 4 7 = nI n) :
    ∀ (k s : Nat) (H : ia_H), s + k = n → (∀ y, y ≠ 7 → y ≠ 8 → y ≠ 10 → H.1 y = h.1 y) → (∀ y, y ≠ 9 → H.2 y = h.2 y) → (∀ j, j < s → H.1 7 j = h.1 21 j ∧ H.1 8 j = h.1 22 j ∧ H.2 9 j = h.2 23 j ∧ H.1 10 j = vp_nar .boolean (h.1 24 j)) → R_ ia_k_X5_becomeLike Z (54, [some (.ref 4), some (.ref 18), some (.int (nI s))], [], H) := by
  intro k
  induction k with
  | zero =>
    intro s H hk f1 f2 f3
    have hk : s = n := by omega
    subst hk
    have e7 : H.1 4 7 = nI s := by rw [f1 4 (by decide) (by decide) (by decide)]; exact en
    refine ia_walk (fun pc => Nat.beq pc 54) 60 (fun X hX => ?_)
    conv => whnf
    refine And.intro (fun q => ?_) (fun q => ?_)
    · exact absurd (show nI s < H.1 4 7 from q) (by rw [e7]; exact nI_nlt (Nat.le_refl _) (by omega))
    · conv => whnf
      exact hZ H f1 f2 f3
  | succ k ih =>
    intro s H hk f1 f2 f3
    have hs : s < 120 := by omega
    have e7 : H.1 4 7 = nI n := by rw [f1 4 (by decide) (by decide) (by decide)]; exact en
    refine ia_walk (fun pc => Nat.beq pc 54) 60 (fun X hX => ?_)
    conv => whnf
    refine And.intro (fun q => ?_) (fun q => ?_)
    · conv => whnf
      refine Exists.intro _ (And.intro (And.intro rfl (hs)) ?_)
      conv => whnf
      refine Exists.intro _ (And.intro (And.intro rfl (hs)) ?_)
      conv => whnf
      refine Exists.intro _ (And.intro (And.intro rfl (hs)) ?_)
      conv => whnf
      refine Exists.intro (_, _) (And.intro (ia_callE (v_draft4 H s hs (H.1 21 s) (H.1 22 s) (H.2 23 s))) ?_)
      conv => whnf
      refine Exists.intro _ (And.intro (And.intro rfl (hs)) ?_)
      conv => whnf
      refine Exists.intro _ (And.intro (And.intro rfl (hs)) ?_)
      conv => whnf
      rw [nI_1]
      refine hX _ (ih (s + 1) _ (by omega) (fun y h1 h2 h3 => ?_) (fun y h1 => ?_) (fun j hj => ?_))
      · rw [← f1 y h1 h2 h3]
        show (if y = 10 then _ else if y = 10 then _ else if y = 8 then _ else if y = 7 then _ else H.1 y) = H.1 y
        rw [if_neg h3, if_neg h3, if_neg h2, if_neg h1]
      · rw [← f2 y h1]
        show (if y = 9 then _ else H.2 y) = H.2 y
        rw [if_neg h1]
      · have g3 := f1 21 (by decide) (by decide) (by decide)
        have g4 := f1 22 (by decide) (by decide) (by decide)
        have g6 := f1 24 (by decide) (by decide) (by decide)
        have g5 := f2 23 (by decide)
        show upd (H.1 7) s (H.1 21 s) j = _ ∧ upd (H.1 8) s (H.1 22 s) j = _ ∧ vp_updL (H.2 9) s (H.2 23 s) j = _ ∧ upd (upd (H.1 10) s 0) s (vp_nar .boolean (H.1 24 s)) j = _
        by_cases hjs : j = s
        · subst hjs
          rw [updp, updp, updp, show vp_updL (H.2 9) j (H.2 23 j) j = H.2 23 j from if_pos rfl, g3, g4, g5, g6]
          exact ⟨rfl, rfl, rfl, rfl⟩
        · rw [updn hjs, updn hjs, updn hjs, updn hjs, show vp_updL (H.2 9) s (H.2 23 s) j = H.2 9 j from if_neg hjs]
          exact f3 j (by omega)
    · exact absurd (show nI s < H.1 4 7 by rw [e7]; exact nI_lt (by omega) (by omega)) q
theorem v_like4_18 {h : ia_H} {t : tdT} (hok : tdOk t) (hr : cRep h 18 t) (hl : ltB h 18) : V_ 40 [.ref 4, .ref 18] h (fun r h' => r = none ∧ cRep h' 4 t ∧ ltB h' 4 ∧ frL 4 h h') := by
  obtain ⟨o1, o2, o3, o4, o5⟩ := hok
  obtain ⟨r1, r2, r3, r4, r5⟩ := hr
  have r1 : h.1 18 6 = nI (tdG t) := r1
  have r2 : h.1 18 7 = nI (tdN t) := r2
  refine ia_V_in ia_k_X5_becomeLike [some (.ref 4), some (.ref 18), none] rfl rfl (Nat.le_of_ble_eq_true rfl) rfl ?_
  refine ia_walk (fun pc => Nat.beq pc 54) 60 (fun X hX => ?_)
  conv => whnf
  refine Exists.intro ⟨by decide, by decide, by decide, by decide, by decide, fun i hi => byF ?_⟩ ?_
  · have hi : i < 246 := hi
    have := hl i hi
    show byR (h.1 19 (0 + i))
    rw [Nat.zero_add]
    exact this
  conv => whnf
  refine Exists.intro ⟨by decide, by decide, by decide, by decide, by decide⟩ ?_
  conv => whnf
  obtain ⟨K, hK⟩ : ∃ K : ia_H, ((ia_cpI (ia_cpI (ia_uI (ia_uI h.1 4 6 (h.1 18 6)) 4 7 (ia_uI h.1 4 6 (h.1 18 6) 18 7)) 19 5 0 0 246) 20 6 0 0 41, h.2) : ia_H) = K := ⟨_, rfl⟩
  have k0 : ∀ y, (y < 4 ∨ 4 + 6 < y) → K.1 y = h.1 y := fun y hy => by
    rw [← hK]
    show (if y = 6 then _ else if y = 5 then _ else if y = 4 then _ else if y = 4 then _ else h.1 y) = h.1 y
    rw [if_neg (by omega), if_neg (by omega), if_neg (by omega), if_neg (by omega)]
  have k1 : K.1 4 6 = nI (tdG t) := by rw [← hK]; exact r1
  have k2 : K.1 4 7 = nI (tdN t) := by rw [← hK]; exact r2
  have k3 : ∀ j, j < 246 → K.1 5 j = h.1 19 j := fun j hj => by
    rw [← hK]
    show (if 0 ≤ j ∧ j < 0 + 246 then h.1 19 (0 + (j - 0)) else _) = _
    rw [if_pos (by omega), show 0 + (j - 0) = j by omega]
  have k4 : ∀ j, j < 41 → K.1 6 j = h.1 20 j := fun j hj => by
    rw [← hK]
    show (if 0 ≤ j ∧ j < 0 + 41 then h.1 20 (0 + (j - 0)) else _) = _
    rw [if_pos (by omega), show 0 + (j - 0) = j by omega]
  have k5 : K.2 = h.2 := by rw [← hK]
  have kd : ∀ y, 18 ≤ y → y ≤ 18 + 6 → K.1 y = h.1 y := fun y q1 q2 => k0 y (by omega)
  have lp := l_like4_18 K (tdN t) o3 (Z := fun r h' => r = none ∧ cRep h' 4 t ∧ ltB h' 4 ∧ frL 4 h h') (fun H f1 f2 f3 => ?_) k2 (tdN t) 0 K (by omega) (fun _ _ _ _ => rfl) (fun _ _ => rfl) (fun j hj => absurd hj (Nat.not_lt_zero j))
  · rw [← hK] at lp
    exact hX _ lp
  · refine ⟨rfl, ⟨?_, ?_, ?_, fun g g1 g2 => ?_, fun s hs => ?_⟩, fun j hj => ?_, fun y hy => ?_, fun y hy => ?_⟩
    · rw [f1 4 (by decide) (by decide) (by decide)]; exact k1
    · rw [f1 4 (by decide) (by decide) (by decide)]; exact k2
    · show H.1 6 0 = 0
      rw [f1 6 (by decide) (by decide) (by decide), k4 0 (by decide)]
      exact r3
    · obtain ⟨q1, q2⟩ := r4 g g1 g2
      obtain ⟨w1, w2, -⟩ := o4 g g1 g2
      show H.1 6 g = _ ∧ ∀ k, _ → H.1 5 (6 * g + k) = _
      rw [f1 6 (by decide) (by decide) (by decide), f1 5 (by decide) (by decide) (by decide), k4 g (by omega)]
      exact ⟨q1, fun k hk => by rw [k3 _ (by omega)]; exact q2 k hk⟩
    · obtain ⟨q1, q2, q3, q4⟩ := r5 s hs
      obtain ⟨w1, w2, w3, w4⟩ := f3 s hs
      show H.1 7 s = _ ∧ H.1 8 s = _ ∧ H.2 9 s = _ ∧ H.1 10 s = _
      rw [w1, w2, w3, w4, kd 21 (by decide) (by decide), kd 22 (by decide) (by decide), kd 24 (by decide) (by decide), k5]
      refine ⟨q1, q2, q3, ?_⟩
      have q4 : h.1 24 s = oI (tdO t s) := q4
      rw [q4, narO]
    · show byR (H.1 5 j)
      rw [f1 5 (by decide) (by decide) (by decide), k3 j hj]
      exact hl j hj
    · rw [f1 y (by omega) (by omega) (by omega)]
      exact k0 y hy
    · rw [f2 y (by omega), k5]
theorem v_image0 {h : ia_H} {t : tdT} (hok : tdOk t) (hr : cRep h 4 t) (hl : ltB h 4) : V_ 86 [.ref 0, .int 0] h (fun r h' => r = some (.int (nI (tdN t))) ∧ cRep h' 11 t ∧ ltB h' 11 ∧ h'.1 51 = upd (h.1 51) 0 1 ∧ (∀ y, (y < 11 ∨ 11 + 6 < y) → y ≠ 51 → h'.1 y = h.1 y) ∧ ∀ y, y ≠ 11 + 5 → h'.2 y = h.2 y) := by
  have en := hr.2.1
  obtain ⟨r1, h1, ev1, z1, z2, z3, z4, z5⟩ := v_like11_4 hok hr hl
  subst z1
  have e7 : h1.1 4 7 = nI (tdN t) := by rw [z4 4 (by decide)]; exact en
  have e51 : h1.1 51 = h.1 51 := z4 51 (by decide)
  refine ia_V_in ia_k_X7_image [some (.ref 0), some (.int 0)] rfl rfl (Nat.le_of_ble_eq_true rfl) rfl ?_
  refine ia_walk (fun _ => false) 60 (fun X hX => ?_)
  conv => whnf
  refine And.intro (fun q => ?_) (fun q => ?_)
  · exact absurd (show (0 : Int32) < 0 from q) (by decide)
  · conv => whnf
    refine And.intro (fun q2 => ?_) (fun q2 => ?_)
    · conv => whnf
      refine Exists.intro 0 (And.intro (And.intro rfl (by decide)) ?_)
      conv => whnf
      refine Exists.intro (_, _) (And.intro ev1 ?_)
      conv => whnf
      refine Exists.intro 0 (And.intro (And.intro rfl (by decide)) ?_)
      conv => whnf
      refine ⟨congrArg (fun v => some (Value.int v)) e7, z2, z3, ?_, fun y h1 h2 => ?_, z5⟩
      · show upd (h1.1 51) 0 (vp_nar .boolean 1) = _
        rw [e51]
        rfl
      · show (if y = 51 then _ else _) = _
        rw [if_neg h2]
        exact z4 y h1
    · exact absurd (show (0 : Int32) < 2 by decide) q2
theorem v_back0 {h : ia_H} {t : tdT} {p : Nat} (hok : tdOk t) (hr : cRep h 11 t) (hl : ltB h 11) (hm : h.1 51 0 = 1) (hp : p < 20) (e3 : h.1 43 3 = nI p) (ts : Nat → tdT) : V_ 87 [.ref 0, .int 0] h (fun r h' => r = some (.int (nI (tdN t))) ∧ cRep h' 4 t ∧ ltB h' 4 ∧ cJ h' t ∧ aC h' ts 0 p ∧ (∀ y, (y < 4 ∨ (11 ≤ y ∧ y < 26) ∨ y = 29 ∨ (34 ≤ y ∧ y ≤ 42) ∨ 47 ≤ y) → h'.1 y = h.1 y) ∧ ∀ y, y ≠ 9 → y ≠ 28 → h'.2 y = h.2 y) := by
  obtain ⟨r1, h1, ev1, z1, z2, z3, z4, z5⟩ := v_like4_11 hok hr hl
  subst z1
  have rk : cRep (hsI h1 43 (upd (h1.1 43) 4 0)) 4 t := z2
  obtain ⟨r2, h2, ev2, w1, w2, w3⟩ := v_anew hok rk
  subst w1
  have e := fun y a b c => (w2.1 y a b c)
  have f4 : h2.1 4 = h1.1 4 := e 4 (by decide) (by decide) (by decide)
  have f5 : h2.1 5 = h1.1 5 := e 5 (by decide) (by decide) (by decide)
  have f6 : h2.1 6 = h1.1 6 := e 6 (by decide) (by decide) (by decide)
  have f7 : h2.1 7 = h1.1 7 := e 7 (by decide) (by decide) (by decide)
  have f8 : h2.1 8 = h1.1 8 := e 8 (by decide) (by decide) (by decide)
  have f10 : h2.1 10 = h1.1 10 := e 10 (by decide) (by decide) (by decide)
  have f9 : h2.2 9 = h1.2 9 := w2.2 9 (by decide)
  have f43 : h2.1 43 = upd (h.1 43) 4 0 := by
    rw [e 43 (by decide) (by decide) (by decide)]
    show upd (h1.1 43) 4 0 = _
    rw [z4 43 (by decide)]
  have rk2 : cRep h2 4 t := by
    obtain ⟨q1, q2, q3, q4, q5⟩ := z2
    refine ⟨by rw [f4]; exact q1, by rw [f4]; exact q2, ?_, fun g g1 g2 => ?_, fun j hj => ?_⟩
    · show h2.1 6 0 = 0; rw [f6]; exact q3
    · show h2.1 6 g = _ ∧ ∀ k, _ → h2.1 5 (6 * g + k) = _
      rw [f5, f6]; exact q4 g g1 g2
    · show h2.1 7 j = _ ∧ h2.1 8 j = _ ∧ h2.2 9 j = _ ∧ h2.1 10 j = _
      rw [f7, f8, f9, f10]; exact q5 j hj
  have e47 : h2.1 4 7 = nI (tdN t) := rk2.2.1
  refine ia_V_in ia_k_X7_back [some (.ref 0), some (.int 0)] rfl rfl (Nat.le_of_ble_eq_true rfl) rfl ?_
  refine ia_walk (fun _ => false) 60 (fun X hX => ?_)
  conv => whnf
  refine And.intro (fun q => ?_) (fun q => ?_)
  · exact absurd (show (0 : Int32) < 0 from q) (by decide)
  · conv => whnf
    refine And.intro (fun q2 => ?_) (fun q2 => ?_)
    · conv => whnf
      refine Exists.intro 0 (And.intro (And.intro rfl (by decide)) ?_)
      conv => whnf
      refine And.intro (fun q3 => ?_) (fun q3 => ?_)
      · exact absurd (show h.1 51 0 = 0 from q3) (by rw [hm]; decide)
      · conv => whnf
        refine Exists.intro 0 (And.intro (And.intro rfl (by decide)) ?_)
        conv => whnf
        refine Exists.intro (_, _) (And.intro ev1 ?_)
        conv => whnf
        refine Exists.intro (_, _) (And.intro ev2 ?_)
        conv => whnf
        refine ⟨congrArg (fun v => some (Value.int v)) e47, rk2, fun j hj => ?_, w3, ⟨by decide, hp, ?_, ?_, fun k hk => absurd hk (Nat.not_lt_zero k)⟩, fun y hy => ?_, fun y h1 h2 => ?_⟩
        · show byR (h2.1 5 j)
          rw [f5]; exact z3 j hj
        · show h2.1 43 3 = _
          rw [f43]; exact e3
        · show h2.1 43 4 = _
          rw [f43]; rfl
        · rw [w2.1 y (by omega) (by omega) (by omega)]
          show (if y = 43 then _ else h1.1 y) = _
          rw [if_neg (by omega)]
          exact z4 y (by omega)
        · rw [w2.2 y h2]
          exact z5 y (by omega)
    · exact absurd (show (0 : Int32) < 2 by decide) q2
theorem v_backN0 {h : ia_H} (hm : h.1 51 0 = 0) : V_ 87 [.ref 0, .int 0] h (Z_ (.int (-1)) h) := by
  refine ia_V_in ia_k_X7_back [some (.ref 0), some (.int 0)] rfl rfl (Nat.le_of_ble_eq_true rfl) rfl ?_
  refine ia_walk (fun _ => false) 60 (fun X hX => ?_)
  conv => whnf
  refine And.intro (fun q => ?_) (fun q => ?_)
  · exact absurd (show (0 : Int32) < 0 from q) (by decide)
  · conv => whnf
    refine And.intro (fun q2 => ?_) (fun q2 => ?_)
    · conv => whnf
      refine Exists.intro 0 (And.intro (And.intro rfl (by decide)) ?_)
      conv => whnf
      refine And.intro (fun q3 => ?_) (fun q3 => ?_)
      · conv => whnf
        exact ⟨rfl, rfl⟩
      · exact absurd hm q3
    · exact absurd (show (0 : Int32) < 2 by decide) q2
theorem v_image1 {h : ia_H} {t : tdT} (hok : tdOk t) (hr : cRep h 4 t) (hl : ltB h 4) : V_ 86 [.ref 0, .int 1] h (fun r h' => r = some (.int (nI (tdN t))) ∧ cRep h' 18 t ∧ ltB h' 18 ∧ h'.1 51 = upd (h.1 51) 1 1 ∧ (∀ y, (y < 18 ∨ 18 + 6 < y) → y ≠ 51 → h'.1 y = h.1 y) ∧ ∀ y, y ≠ 18 + 5 → h'.2 y = h.2 y) := by
  have en := hr.2.1
  obtain ⟨r1, h1, ev1, z1, z2, z3, z4, z5⟩ := v_like18_4 hok hr hl
  subst z1
  have e7 : h1.1 4 7 = nI (tdN t) := by rw [z4 4 (by decide)]; exact en
  have e51 : h1.1 51 = h.1 51 := z4 51 (by decide)
  refine ia_V_in ia_k_X7_image [some (.ref 0), some (.int 1)] rfl rfl (Nat.le_of_ble_eq_true rfl) rfl ?_
  refine ia_walk (fun _ => false) 60 (fun X hX => ?_)
  conv => whnf
  refine And.intro (fun q => ?_) (fun q => ?_)
  · exact absurd (show (1 : Int32) < 0 from q) (by decide)
  · conv => whnf
    refine And.intro (fun q2 => ?_) (fun q2 => ?_)
    · conv => whnf
      refine Exists.intro 1 (And.intro (And.intro rfl (by decide)) ?_)
      conv => whnf
      refine Exists.intro (_, _) (And.intro ev1 ?_)
      conv => whnf
      refine Exists.intro 1 (And.intro (And.intro rfl (by decide)) ?_)
      conv => whnf
      refine ⟨congrArg (fun v => some (Value.int v)) e7, z2, z3, ?_, fun y h1 h2 => ?_, z5⟩
      · show upd (h1.1 51) 1 (vp_nar .boolean 1) = _
        rw [e51]
        rfl
      · show (if y = 51 then _ else _) = _
        rw [if_neg h2]
        exact z4 y h1
    · exact absurd (show (1 : Int32) < 2 by decide) q2
theorem v_back1 {h : ia_H} {t : tdT} {p : Nat} (hok : tdOk t) (hr : cRep h 18 t) (hl : ltB h 18) (hm : h.1 51 1 = 1) (hp : p < 20) (e3 : h.1 43 3 = nI p) (ts : Nat → tdT) : V_ 87 [.ref 0, .int 1] h (fun r h' => r = some (.int (nI (tdN t))) ∧ cRep h' 4 t ∧ ltB h' 4 ∧ cJ h' t ∧ aC h' ts 0 p ∧ (∀ y, (y < 4 ∨ (11 ≤ y ∧ y < 26) ∨ y = 29 ∨ (34 ≤ y ∧ y ≤ 42) ∨ 47 ≤ y) → h'.1 y = h.1 y) ∧ ∀ y, y ≠ 9 → y ≠ 28 → h'.2 y = h.2 y) := by
  obtain ⟨r1, h1, ev1, z1, z2, z3, z4, z5⟩ := v_like4_18 hok hr hl
  subst z1
  have rk : cRep (hsI h1 43 (upd (h1.1 43) 4 0)) 4 t := z2
  obtain ⟨r2, h2, ev2, w1, w2, w3⟩ := v_anew hok rk
  subst w1
  have e := fun y a b c => (w2.1 y a b c)
  have f4 : h2.1 4 = h1.1 4 := e 4 (by decide) (by decide) (by decide)
  have f5 : h2.1 5 = h1.1 5 := e 5 (by decide) (by decide) (by decide)
  have f6 : h2.1 6 = h1.1 6 := e 6 (by decide) (by decide) (by decide)
  have f7 : h2.1 7 = h1.1 7 := e 7 (by decide) (by decide) (by decide)
  have f8 : h2.1 8 = h1.1 8 := e 8 (by decide) (by decide) (by decide)
  have f10 : h2.1 10 = h1.1 10 := e 10 (by decide) (by decide) (by decide)
  have f9 : h2.2 9 = h1.2 9 := w2.2 9 (by decide)
  have f43 : h2.1 43 = upd (h.1 43) 4 0 := by
    rw [e 43 (by decide) (by decide) (by decide)]
    show upd (h1.1 43) 4 0 = _
    rw [z4 43 (by decide)]
  have rk2 : cRep h2 4 t := by
    obtain ⟨q1, q2, q3, q4, q5⟩ := z2
    refine ⟨by rw [f4]; exact q1, by rw [f4]; exact q2, ?_, fun g g1 g2 => ?_, fun j hj => ?_⟩
    · show h2.1 6 0 = 0; rw [f6]; exact q3
    · show h2.1 6 g = _ ∧ ∀ k, _ → h2.1 5 (6 * g + k) = _
      rw [f5, f6]; exact q4 g g1 g2
    · show h2.1 7 j = _ ∧ h2.1 8 j = _ ∧ h2.2 9 j = _ ∧ h2.1 10 j = _
      rw [f7, f8, f9, f10]; exact q5 j hj
  have e47 : h2.1 4 7 = nI (tdN t) := rk2.2.1
  refine ia_V_in ia_k_X7_back [some (.ref 0), some (.int 1)] rfl rfl (Nat.le_of_ble_eq_true rfl) rfl ?_
  refine ia_walk (fun _ => false) 60 (fun X hX => ?_)
  conv => whnf
  refine And.intro (fun q => ?_) (fun q => ?_)
  · exact absurd (show (1 : Int32) < 0 from q) (by decide)
  · conv => whnf
    refine And.intro (fun q2 => ?_) (fun q2 => ?_)
    · conv => whnf
      refine Exists.intro 1 (And.intro (And.intro rfl (by decide)) ?_)
      conv => whnf
      refine And.intro (fun q3 => ?_) (fun q3 => ?_)
      · exact absurd (show h.1 51 1 = 0 from q3) (by rw [hm]; decide)
      · conv => whnf
        refine Exists.intro 1 (And.intro (And.intro rfl (by decide)) ?_)
        conv => whnf
        refine Exists.intro (_, _) (And.intro ev1 ?_)
        conv => whnf
        refine Exists.intro (_, _) (And.intro ev2 ?_)
        conv => whnf
        refine ⟨congrArg (fun v => some (Value.int v)) e47, rk2, fun j hj => ?_, w3, ⟨by decide, hp, ?_, ?_, fun k hk => absurd hk (Nat.not_lt_zero k)⟩, fun y hy => ?_, fun y h1 h2 => ?_⟩
        · show byR (h2.1 5 j)
          rw [f5]; exact z3 j hj
        · show h2.1 43 3 = _
          rw [f43]; exact e3
        · show h2.1 43 4 = _
          rw [f43]; rfl
        · rw [w2.1 y (by omega) (by omega) (by omega)]
          show (if y = 43 then _ else h1.1 y) = _
          rw [if_neg (by omega)]
          exact z4 y (by omega)
        · rw [w2.2 y h2]
          exact z5 y (by omega)
    · exact absurd (show (1 : Int32) < 2 by decide) q2
theorem v_backN1 {h : ia_H} (hm : h.1 51 1 = 0) : V_ 87 [.ref 0, .int 1] h (Z_ (.int (-1)) h) := by
  refine ia_V_in ia_k_X7_back [some (.ref 0), some (.int 1)] rfl rfl (Nat.le_of_ble_eq_true rfl) rfl ?_
  refine ia_walk (fun _ => false) 60 (fun X hX => ?_)
  conv => whnf
  refine And.intro (fun q => ?_) (fun q => ?_)
  · exact absurd (show (1 : Int32) < 0 from q) (by decide)
  · conv => whnf
    refine And.intro (fun q2 => ?_) (fun q2 => ?_)
    · conv => whnf
      refine Exists.intro 1 (And.intro (And.intro rfl (by decide)) ?_)
      conv => whnf
      refine And.intro (fun q3 => ?_) (fun q3 => ?_)
      · conv => whnf
        exact ⟨rfl, rfl⟩
      · exact absurd hm q3
    · exact absurd (show (1 : Int32) < 2 by decide) q2
theorem v_imageB {h : ia_H} {x : Int32} (hb : bad x 2) : V_ 86 [.ref 0, .int x] h (Z_ (.int (-1)) h) := by
  refine ia_V_in ia_k_X7_image [some (.ref 0), some (.int x)] rfl rfl (Nat.le_of_ble_eq_true rfl) rfl ?_
  refine ia_walk (fun _ => false) 60 (fun X hX => ?_)
  conv => whnf
  refine And.intro (fun q => ?_) (fun q => ?_)
  · conv => whnf
    exact ⟨rfl, rfl⟩
  · conv => whnf
    refine And.intro (fun q2 => ?_) (fun q2 => ?_)
    · rcases hb with hb | hb
      · exact absurd hb q
      · exact absurd (show x < 2 from q2) (Int32.not_lt.mpr hb)
    · conv => whnf
      exact ⟨rfl, rfl⟩
theorem v_backB {h : ia_H} {x : Int32} (hb : bad x 2) : V_ 87 [.ref 0, .int x] h (Z_ (.int (-1)) h) := by
  refine ia_V_in ia_k_X7_back [some (.ref 0), some (.int x)] rfl rfl (Nat.le_of_ble_eq_true rfl) rfl ?_
  refine ia_walk (fun _ => false) 60 (fun X hX => ?_)
  conv => whnf
  refine And.intro (fun q => ?_) (fun q => ?_)
  · conv => whnf
    exact ⟨rfl, rfl⟩
  · conv => whnf
    refine And.intro (fun q2 => ?_) (fun q2 => ?_)
    · rcases hb with hb | hb
      · exact absurd hb q
      · exact absurd (show x < 2 from q2) (Int32.not_lt.mpr hb)
    · conv => whnf
      exact ⟨rfl, rfl⟩
