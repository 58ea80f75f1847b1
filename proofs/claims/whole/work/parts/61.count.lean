/-! statement and count, class and reference side by side -/
theorem v_rl (h : ia_H) (s : Nat) (hs : s < 120) : V_ 62 [.ref 29, .int (nI s)] h (Z_ (.int (h.1 42 s)) h) := by
  refine ia_V_in ia_k_X6_relyOn [some (.ref 29), some (.int (nI s))] rfl rfl (Nat.le_of_ble_eq_true rfl) rfl ?_
  refine ia_walk (fun _ => false) 50 (fun X hX => ?_)
  conv => whnf
  refine Exists.intro _ (And.intro (And.intro rfl (hs)) ?_)
  conv => whnf
  exact ⟨rfl, rfl⟩
theorem v_relyOn {h : ia_H} {n G : Nat} {sd : Nat → Bool} {A B : Nat → Nat} (hw : wOk h n G sd A B) {s : Nat} (hs : s < n) : V_ 93 [.ref 0, .int (nI s)] h (fun r h' => r = some (.int (rlM sd A B s)) ∧ frS h h') := by
  have hn := hw.1.1
  have eG := hw.2.2.1
  refine ia_V_in ia_k_X7_relyOn [some (.ref 0), some (.int (nI s))] rfl rfl (Nat.le_of_ble_eq_true rfl) rfl ?_
  refine ia_walk (fun _ => false) 50 (fun X hX => ?_)
  conv => whnf
  obtain ⟨r1, h1, ev1, z1, z2, z3⟩ := v_growTrees h n G sd A B hw
  rw [← eG] at ev1
  subst z1
  refine Exists.intro (_, _) (And.intro ev1 ?_)
  conv => whnf
  refine Exists.intro (_, _) (And.intro (ia_callE (v_rl h1 s (by omega))) ?_)
  conv => whnf
  exact ⟨congrArg (fun v => some (Value.int v)) (z3 s (by omega)), z2⟩
theorem v_hangs {h : ia_H} {n G : Nat} {sd : Nat → Bool} {A B : Nat → Nat} (hw : wOk h n G sd A B) {s : Nat} (hs : s < n) : V_ 94 [.ref 0, .int (nI s)] h (fun r h' => r = some (.int (if 0 < rlM sd A B s then 1 else 0)) ∧ frS h h') := by
  refine ia_V_in ia_k_X7_hangs [some (.ref 0), some (.int (nI s))] rfl rfl (Nat.le_of_ble_eq_true rfl) rfl ?_
  refine ia_walk (fun _ => false) 50 (fun X hX => ?_)
  conv => whnf
  obtain ⟨r1, h1, ev1, z1, z2⟩ := v_relyOn hw hs
  subst z1
  refine Exists.intro (_, _) (And.intro ev1 ?_)
  conv => whnf
  refine And.intro (fun c => ?_) (fun c => ?_)
  · conv => whnf
    exact ⟨Or.inr rfl, by rw [if_pos (show 0 < rlM sd A B s from c)], z2⟩
  · conv => whnf
    exact ⟨Or.inl rfl, by rw [if_neg (show ¬ 0 < rlM sd A B s from c)], z2⟩
theorem l_cHang (h : ia_H) (sd : Nat → Bool) (A B : Nat → Nat) (n : Nat) (hn : n ≤ 120) (eN : h.1 4 7 = nI n) (hr : ∀ s, s < 120 → h.1 42 s = rlM sd A B s) {Z : Option Value → ia_H → Prop} (hZ : Z (some (.int (nI (ct (fun s => decide (0 < rlM sd A B s)) n)))) h) : ∀ k s : Nat, s + k = n → R_ ia_k_X7_countHanging Z (18, [some (.ref 0), some (.int (nI (ct (fun s => decide (0 < rlM sd A B s)) s))), some (.int (nI s))], [], h) := by
  intro k
  induction k with
  | zero =>
    intro s hs
    have es : s = n := by omega
    subst es
    refine ia_walk (fun pc => Nat.beq pc 18) 50 (fun X hX => ?_)
    conv => whnf
    refine And.intro (fun c => ?_) (fun c => ?_)
    · exact absurd (show nI s < h.1 4 7 from c) (by rw [eN]; exact nI_nlt (Nat.le_refl s) (by omega))
    · conv => whnf
      exact hZ
  | succ k ih =>
    intro s hs
    have ih := ih (s + 1) (by omega)
    refine ia_walk (fun pc => Nat.beq pc 18) 50 (fun X hX => ?_)
    conv => whnf
    refine And.intro (fun c => ?_) (fun c => ?_)
    · conv => whnf
      obtain ⟨v, ev, ev'⟩ := ia_callN (v_rl h s (by omega))
      refine Exists.intro (_, _) (And.intro ev' ?_)
      clear ev'
      rw [hr s (by omega)] at ev
      conv => whnf
      refine And.intro (fun c1 => ?_) (fun c1 => ?_)
      · rw [ct_t (by rw [← ev]; exact decide_eq_true c1)] at ih
        conv => whnf
        rw [nI_1, nI_1]
        exact hX _ ih
      · rw [ct_f (by rw [← ev]; exact decide_eq_false c1)] at ih
        conv => whnf
        rw [nI_1]
        exact hX _ ih
    · exact absurd (show nI s < h.1 4 7 by rw [eN]; exact nI_lt (by omega) (by omega)) c
theorem v_cHang {h : ia_H} {n G : Nat} {sd : Nat → Bool} {A B : Nat → Nat} (hw : wOk h n G sd A B) : V_ 95 [.ref 0] h (fun r h' => r = some (.int (nI (ct (fun s => decide (0 < rlM sd A B s)) n))) ∧ frS h h') := by
  have hn := hw.1.1
  have eG := hw.2.2.1
  have eN := hw.2.1
  refine ia_V_in ia_k_X7_countHanging [some (.ref 0), none, none] rfl rfl (Nat.le_of_ble_eq_true rfl) rfl ?_
  refine ia_walk (fun pc => Nat.beq pc 18) 50 (fun X hX => ?_)
  conv => whnf
  obtain ⟨r1, h1, ev1, z1, z2, z3⟩ := v_growTrees h n G sd A B hw
  rw [← eG] at ev1
  subst z1
  refine Exists.intro (_, _) (And.intro ev1 ?_)
  conv => whnf
  exact hX _ (l_cHang h1 sd A B n hn (by rw [z2.1 4 (by decide)]; exact eN) z3 (Z := fun r h' => r = some (.int (nI (ct (fun s => decide (0 < rlM sd A B s)) n))) ∧ frS h h') ⟨rfl, z2⟩ n 0 (by omega))
theorem l_mHang (h : ia_H) (sd : Nat → Bool) (A B : Nat → Nat) (n G : Nat) (hw : wOk h n G sd A B) (hc : cnOk h G sd A B) {Z : Option Value → ia_H → Prop} (hZ : ∀ H, frS h H → Z (some (.int (nI (ct (fun s => decide (0 < rlM sd A B s)) n)))) H) : ∀ (k s : Nat) (H : ia_H), s + k = n → frS h H → R_ ia_k_X8_hanging Z (4, [some (.ref 52), some (.int (nI (ct (fun s => decide (0 < rlM sd A B s)) s))), some (.int (nI s))], [], H) := by
  have hn := hw.1.1
  intro k
  induction k with
  | zero =>
    intro s H hs hf
    have eN := (wOk_fr hw hf).1.2.2.1
    have es : s = n := by omega
    subst es
    refine ia_walk (fun pc => Nat.beq pc 4) 50 (fun X hX => ?_)
    conv => whnf
    refine And.intro (fun c => ?_) (fun c => ?_)
    · exact absurd (show nI s < H.1 52 10 from c) (by rw [eN]; exact nI_nlt (Nat.le_refl s) (by omega))
    · conv => whnf
      exact hZ H hf
  | succ k ih =>
    intro s H hs hf
    have hw2 := wOk_fr hw hf
    have eN := hw2.1.2.2.1
    have ih := ih (s + 1)
    refine ia_walk (fun pc => Nat.beq pc 4) 50 (fun X hX => ?_)
    conv => whnf
    refine And.intro (fun c => ?_) (fun c => ?_)
    · conv => whnf
      obtain ⟨r1, h1, ev1, z1, z2⟩ := m_rely H n G sd A B hw2.1 (cnOk_fr hc hf) s (by omega)
      subst z1
      refine Exists.intro (_, _) (And.intro ev1 ?_)
      conv => whnf
      refine And.intro (fun c1 => ?_) (fun c1 => ?_)
      · rw [ct_t (decide_eq_true (show 0 < rlM sd A B s from c1))] at ih
        conv => whnf
        rw [nI_1, nI_1]
        exact hX _ (ih h1 (by omega) (frS_tr hf z2))
      · rw [ct_f (decide_eq_false (show ¬ 0 < rlM sd A B s from c1))] at ih
        conv => whnf
        rw [Int32.add_zero, nI_1]
        exact hX _ (ih h1 (by omega) (frS_tr hf z2))
    · exact absurd (show nI s < H.1 52 10 by rw [eN]; exact nI_lt (by omega) (by omega)) c
theorem m_hanging (h : ia_H) (sd : Nat → Bool) (A B : Nat → Nat) (n G : Nat) (hw : wOk h n G sd A B) (hc : cnOk h G sd A B) : V_ 163 [.ref 52] h (fun r h' => r = some (.int (nI (ct (fun s => decide (0 < rlM sd A B s)) n))) ∧ frS h h') := by
  refine ia_V_in ia_k_X8_hanging [some (.ref 52), none, none] rfl rfl (Nat.le_of_ble_eq_true rfl) rfl ?_
  refine ia_walk (fun pc => Nat.beq pc 4) 50 (fun X hX => ?_)
  conv => whnf
  exact hX _ (l_mHang h sd A B n G hw hc (Z := fun r h' => r = some (.int (nI (ct (fun s => decide (0 < rlM sd A B s)) n))) ∧ frS h h') (fun H hf => ⟨rfl, hf⟩) n 0 h (by omega) (frS_rfl h))
/-- one answer that both give, each leaving what matters -/
theorem P_two {a : Nat} {as : List Value} {b : Nat} {bs : List Value} {h : ia_H} {v : Value} (h1 : V_ a as h (fun r h' => r = some v ∧ frS h h')) (h2 : ∀ H, frS h H → V_ b bs H (fun r h' => r = some v ∧ frS H h')) : P_ a as b bs h := by
  obtain ⟨r, h', ev, z1, z2⟩ := h1
  refine ⟨r, h', ev, z2, ?_⟩
  obtain ⟨r2, h2', ev2, y1, y2⟩ := h2 h' z2
  exact ⟨r2, h2', ev2, by rw [y1, z1], frS_tr z2 y2⟩
theorem Q_P {a : Nat} {as : List Value} {b : Nat} {bs : List Value} {h : ia_H} (hq : Q_ a as b bs h) : P_ a as b bs h := by
  obtain ⟨v, h1, h2⟩ := hq
  exact P_of h1 h2
/-- what count wants beside the groups -/
def ctOk (h : ia_H) : Prop := h.1 43 4 = h.1 52 22 ∧ h.1 2 1 = h.1 52 1
theorem not04 {w : Int32} (hx : ∀ j : Int, j ∈ [0, 1, 2, 3, 4] → ¬ w = Int32.ofInt j) : ¬ ((0 : Int64).toInt ≤ w.toInt ∧ w.toInt ≤ (4 : Int64).toInt) := by
  intro ⟨a, b⟩
  have a : 0 ≤ w.toInt := a
  have b : w.toInt ≤ 4 := b
  refine hx w.toInt ?_ (Int32.ofInt_toInt w).symm
  simp only [List.mem_cons, List.not_mem_nil, or_false]
  omega
theorem q_count0 {h : ia_H} {n G : Nat} {sd : Nat → Bool} {A B : Nat → Nat} (hw : wOk h n G sd A B) (hp : gpOk h G n) (hc : cnOk h G sd A B) (hk : ctOk h) : P_ 88 [.ref 0, .int 0] 164 [.ref 52, .int 0] h := by
  have hn := hw.1.1
  have hG := hw.1.2.1
  have en := hw.2.1
  have eG := hw.2.2.1
  have en2 := hw.1.2.2.1
  have eG2 := hw.1.2.2.2.1
  refine P_of (v := .int (nI G)) ?_ ?_
  · refine ia_V_in ia_k_X7_count [some (.ref 0), some (.int 0)] rfl rfl (Nat.le_of_ble_eq_true rfl) rfl ?_
    refine ia_walk (fun _ => false) 50 (fun X hX => ?_)
    conv => whnf
    refine And.intro (fun c0 => ?_) (fun c0 => ?_)
    · conv => whnf
      exact ⟨congrArg (fun v => some (Value.int v)) eG, rfl⟩
    · exact absurd rfl c0
  · refine ia_V_in ia_k_X8_count [some (.ref 52), some (.int 0)] rfl rfl (Nat.le_of_ble_eq_true rfl) rfl ?_
    refine ia_walk (fun _ => false) 50 (fun X hX => ?_)
    conv => whnf
    refine And.intro (fun c0 => ?_) (fun c0 => ?_)
    · conv => whnf
      exact ⟨congrArg (fun v => some (Value.int v)) eG2, rfl⟩
    · exact absurd rfl c0
theorem q_count1 {h : ia_H} {n G : Nat} {sd : Nat → Bool} {A B : Nat → Nat} (hw : wOk h n G sd A B) (hp : gpOk h G n) (hc : cnOk h G sd A B) (hk : ctOk h) : P_ 88 [.ref 0, .int 1] 164 [.ref 52, .int 1] h := by
  have hn := hw.1.1
  have hG := hw.1.2.1
  have en := hw.2.1
  have eG := hw.2.2.1
  have en2 := hw.1.2.2.1
  have eG2 := hw.1.2.2.2.1
  refine P_of (v := .int (nI n)) ?_ ?_
  · refine ia_V_in ia_k_X7_count [some (.ref 0), some (.int 1)] rfl rfl (Nat.le_of_ble_eq_true rfl) rfl ?_
    refine ia_walk (fun _ => false) 50 (fun X hX => ?_)
    conv => whnf
    refine And.intro (fun c0 => ?_) (fun c0 => ?_)
    · exact absurd (show (1 : Int32) = Int32.ofInt 0 from c0) (by decide)
    · skip
      conv => whnf
      refine And.intro (fun c1 => ?_) (fun c1 => ?_)
      · conv => whnf
        exact ⟨congrArg (fun v => some (Value.int v)) en, rfl⟩
      · exact absurd rfl c1
  · refine ia_V_in ia_k_X8_count [some (.ref 52), some (.int 1)] rfl rfl (Nat.le_of_ble_eq_true rfl) rfl ?_
    refine ia_walk (fun _ => false) 50 (fun X hX => ?_)
    conv => whnf
    refine And.intro (fun c0 => ?_) (fun c0 => ?_)
    · exact absurd (show (1 : Int32) = Int32.ofInt 0 from c0) (by decide)
    · skip
      conv => whnf
      refine And.intro (fun c1 => ?_) (fun c1 => ?_)
      · conv => whnf
        exact ⟨congrArg (fun v => some (Value.int v)) en2, rfl⟩
      · exact absurd rfl c1
theorem q_count2 {h : ia_H} {n G : Nat} {sd : Nat → Bool} {A B : Nat → Nat} (hw : wOk h n G sd A B) (hp : gpOk h G n) (hc : cnOk h G sd A B) (hk : ctOk h) : P_ 88 [.ref 0, .int 2] 164 [.ref 52, .int 2] h := by
  have hn := hw.1.1
  have hG := hw.1.2.1
  have en := hw.2.1
  have eG := hw.2.2.1
  have en2 := hw.1.2.2.1
  have eG2 := hw.1.2.2.2.1
  refine P_of (v := .int (nI (ct (fun j => decide (h.1 26 j = 0)) n))) ?_ ?_
  · refine ia_V_in ia_k_X7_count [some (.ref 0), some (.int 2)] rfl rfl (Nat.le_of_ble_eq_true rfl) rfl ?_
    refine ia_walk (fun _ => false) 50 (fun X hX => ?_)
    conv => whnf
    refine And.intro (fun c0 => ?_) (fun c0 => ?_)
    · exact absurd (show (2 : Int32) = Int32.ofInt 0 from c0) (by decide)
    · skip
      conv => whnf
      refine And.intro (fun c1 => ?_) (fun c1 => ?_)
      · exact absurd (show (2 : Int32) = Int32.ofInt 1 from c1) (by decide)
      · skip
        conv => whnf
        refine And.intro (fun c2 => ?_) (fun c2 => ?_)
        · conv => whnf
          obtain ⟨r1, h1, ev, z1, z2⟩ := v_countOf h 0 n hn
          rw [← en] at ev
          subst z1
          refine Exists.intro (_, _) (And.intro ev ?_)
          conv => whnf
          exact ⟨rfl, z2⟩
        · exact absurd rfl c2
  · refine ia_V_in ia_k_X8_count [some (.ref 52), some (.int 2)] rfl rfl (Nat.le_of_ble_eq_true rfl) rfl ?_
    refine ia_walk (fun _ => false) 50 (fun X hX => ?_)
    conv => whnf
    refine And.intro (fun c0 => ?_) (fun c0 => ?_)
    · exact absurd (show (2 : Int32) = Int32.ofInt 0 from c0) (by decide)
    · skip
      conv => whnf
      refine And.intro (fun c1 => ?_) (fun c1 => ?_)
      · exact absurd (show (2 : Int32) = Int32.ofInt 1 from c1) (by decide)
      · skip
        conv => whnf
        refine And.intro (fun c2 => ?_) (fun c2 => ?_)
        · conv => whnf
          have ev := ia_callE (m_manyOf h 0 n hn en2)
          refine Exists.intro (_, _) (And.intro ev ?_)
          conv => whnf
          exact ⟨by rw [ct_congr (p := fun j => decide (h.1 62 j = 0)) (q := fun j => decide (h.1 26 j = 0)) (fun s hs => by rw [(hw.2.2.2.1 s hs).2.2])], rfl⟩
        · exact absurd rfl c2
theorem q_count3 {h : ia_H} {n G : Nat} {sd : Nat → Bool} {A B : Nat → Nat} (hw : wOk h n G sd A B) (hp : gpOk h G n) (hc : cnOk h G sd A B) (hk : ctOk h) : P_ 88 [.ref 0, .int 3] 164 [.ref 52, .int 3] h := by
  have hn := hw.1.1
  have hG := hw.1.2.1
  have en := hw.2.1
  have eG := hw.2.2.1
  have en2 := hw.1.2.2.1
  have eG2 := hw.1.2.2.2.1
  refine P_of (v := .int (nI (ct (fun j => decide (h.1 26 j = 1)) n))) ?_ ?_
  · refine ia_V_in ia_k_X7_count [some (.ref 0), some (.int 3)] rfl rfl (Nat.le_of_ble_eq_true rfl) rfl ?_
    refine ia_walk (fun _ => false) 50 (fun X hX => ?_)
    conv => whnf
    refine And.intro (fun c0 => ?_) (fun c0 => ?_)
    · exact absurd (show (3 : Int32) = Int32.ofInt 0 from c0) (by decide)
    · skip
      conv => whnf
      refine And.intro (fun c1 => ?_) (fun c1 => ?_)
      · exact absurd (show (3 : Int32) = Int32.ofInt 1 from c1) (by decide)
      · skip
        conv => whnf
        refine And.intro (fun c2 => ?_) (fun c2 => ?_)
        · exact absurd (show (3 : Int32) = Int32.ofInt 2 from c2) (by decide)
        · skip
          conv => whnf
          refine And.intro (fun c3 => ?_) (fun c3 => ?_)
          · conv => whnf
            obtain ⟨r1, h1, ev, z1, z2⟩ := v_countOf h 1 n hn
            rw [← en] at ev
            subst z1
            refine Exists.intro (_, _) (And.intro ev ?_)
            conv => whnf
            exact ⟨rfl, z2⟩
          · exact absurd rfl c3
  · refine ia_V_in ia_k_X8_count [some (.ref 52), some (.int 3)] rfl rfl (Nat.le_of_ble_eq_true rfl) rfl ?_
    refine ia_walk (fun _ => false) 50 (fun X hX => ?_)
    conv => whnf
    refine And.intro (fun c0 => ?_) (fun c0 => ?_)
    · exact absurd (show (3 : Int32) = Int32.ofInt 0 from c0) (by decide)
    · skip
      conv => whnf
      refine And.intro (fun c1 => ?_) (fun c1 => ?_)
      · exact absurd (show (3 : Int32) = Int32.ofInt 1 from c1) (by decide)
      · skip
        conv => whnf
        refine And.intro (fun c2 => ?_) (fun c2 => ?_)
        · exact absurd (show (3 : Int32) = Int32.ofInt 2 from c2) (by decide)
        · skip
          conv => whnf
          refine And.intro (fun c3 => ?_) (fun c3 => ?_)
          · conv => whnf
            have ev := ia_callE (m_manyOf h 1 n hn en2)
            refine Exists.intro (_, _) (And.intro ev ?_)
            conv => whnf
            exact ⟨by rw [ct_congr (p := fun j => decide (h.1 62 j = 1)) (q := fun j => decide (h.1 26 j = 1)) (fun s hs => by rw [(hw.2.2.2.1 s hs).2.2])], rfl⟩
          · exact absurd rfl c3
theorem q_count4 {h : ia_H} {n G : Nat} {sd : Nat → Bool} {A B : Nat → Nat} (hw : wOk h n G sd A B) (hp : gpOk h G n) (hc : cnOk h G sd A B) (hk : ctOk h) : P_ 88 [.ref 0, .int 4] 164 [.ref 52, .int 4] h := by
  have hn := hw.1.1
  have hG := hw.1.2.1
  have en := hw.2.1
  have eG := hw.2.2.1
  have en2 := hw.1.2.2.1
  have eG2 := hw.1.2.2.2.1
  refine P_of (v := .int (nI (ct (fun j => decide (h.1 26 j = 2)) n))) ?_ ?_
  · refine ia_V_in ia_k_X7_count [some (.ref 0), some (.int 4)] rfl rfl (Nat.le_of_ble_eq_true rfl) rfl ?_
    refine ia_walk (fun _ => false) 50 (fun X hX => ?_)
    conv => whnf
    refine And.intro (fun c0 => ?_) (fun c0 => ?_)
    · exact absurd (show (4 : Int32) = Int32.ofInt 0 from c0) (by decide)
    · skip
      conv => whnf
      refine And.intro (fun c1 => ?_) (fun c1 => ?_)
      · exact absurd (show (4 : Int32) = Int32.ofInt 1 from c1) (by decide)
      · skip
        conv => whnf
        refine And.intro (fun c2 => ?_) (fun c2 => ?_)
        · exact absurd (show (4 : Int32) = Int32.ofInt 2 from c2) (by decide)
        · skip
          conv => whnf
          refine And.intro (fun c3 => ?_) (fun c3 => ?_)
          · exact absurd (show (4 : Int32) = Int32.ofInt 3 from c3) (by decide)
          · skip
            conv => whnf
            refine And.intro (fun c4 => ?_) (fun c4 => ?_)
            · conv => whnf
              obtain ⟨r1, h1, ev, z1, z2⟩ := v_countOf h 2 n hn
              rw [← en] at ev
              subst z1
              refine Exists.intro (_, _) (And.intro ev ?_)
              conv => whnf
              exact ⟨rfl, z2⟩
            · exact absurd rfl c4
  · refine ia_V_in ia_k_X8_count [some (.ref 52), some (.int 4)] rfl rfl (Nat.le_of_ble_eq_true rfl) rfl ?_
    refine ia_walk (fun _ => false) 50 (fun X hX => ?_)
    conv => whnf
    refine And.intro (fun c0 => ?_) (fun c0 => ?_)
    · exact absurd (show (4 : Int32) = Int32.ofInt 0 from c0) (by decide)
    · skip
      conv => whnf
      refine And.intro (fun c1 => ?_) (fun c1 => ?_)
      · exact absurd (show (4 : Int32) = Int32.ofInt 1 from c1) (by decide)
      · skip
        conv => whnf
        refine And.intro (fun c2 => ?_) (fun c2 => ?_)
        · exact absurd (show (4 : Int32) = Int32.ofInt 2 from c2) (by decide)
        · skip
          conv => whnf
          refine And.intro (fun c3 => ?_) (fun c3 => ?_)
          · exact absurd (show (4 : Int32) = Int32.ofInt 3 from c3) (by decide)
          · skip
            conv => whnf
            refine And.intro (fun c4 => ?_) (fun c4 => ?_)
            · conv => whnf
              have ev := ia_callE (m_manyOf h 2 n hn en2)
              refine Exists.intro (_, _) (And.intro ev ?_)
              conv => whnf
              exact ⟨by rw [ct_congr (p := fun j => decide (h.1 62 j = 2)) (q := fun j => decide (h.1 26 j = 2)) (fun s hs => by rw [(hw.2.2.2.1 s hs).2.2])], rfl⟩
            · exact absurd rfl c4
theorem q_count5 {h : ia_H} {n G : Nat} {sd : Nat → Bool} {A B : Nat → Nat} (hw : wOk h n G sd A B) (hp : gpOk h G n) (hc : cnOk h G sd A B) (hk : ctOk h) : P_ 88 [.ref 0, .int 5] 164 [.ref 52, .int 5] h := by
  have hn := hw.1.1
  have hG := hw.1.2.1
  have en := hw.2.1
  have eG := hw.2.2.1
  have en2 := hw.1.2.2.1
  have eG2 := hw.1.2.2.2.1
  refine P_of (v := .int (nI (ct (fun j => decide (h.1 26 j = 3)) n))) ?_ ?_
  · refine ia_V_in ia_k_X7_count [some (.ref 0), some (.int 5)] rfl rfl (Nat.le_of_ble_eq_true rfl) rfl ?_
    refine ia_walk (fun _ => false) 50 (fun X hX => ?_)
    conv => whnf
    refine And.intro (fun c0 => ?_) (fun c0 => ?_)
    · exact absurd (show (5 : Int32) = Int32.ofInt 0 from c0) (by decide)
    · skip
      conv => whnf
      refine And.intro (fun c1 => ?_) (fun c1 => ?_)
      · exact absurd (show (5 : Int32) = Int32.ofInt 1 from c1) (by decide)
      · skip
        conv => whnf
        refine And.intro (fun c2 => ?_) (fun c2 => ?_)
        · exact absurd (show (5 : Int32) = Int32.ofInt 2 from c2) (by decide)
        · skip
          conv => whnf
          refine And.intro (fun c3 => ?_) (fun c3 => ?_)
          · exact absurd (show (5 : Int32) = Int32.ofInt 3 from c3) (by decide)
          · skip
            conv => whnf
            refine And.intro (fun c4 => ?_) (fun c4 => ?_)
            · exact absurd (show (5 : Int32) = Int32.ofInt 4 from c4) (by decide)
            · skip
              conv => whnf
              refine And.intro (fun c5 => ?_) (fun c5 => ?_)
              · conv => whnf
                obtain ⟨r1, h1, ev, z1, z2⟩ := v_countOf h 3 n hn
                rw [← en] at ev
                subst z1
                refine Exists.intro (_, _) (And.intro ev ?_)
                conv => whnf
                exact ⟨rfl, z2⟩
              · exact absurd rfl c5
  · refine ia_V_in ia_k_X8_count [some (.ref 52), some (.int 5)] rfl rfl (Nat.le_of_ble_eq_true rfl) rfl ?_
    refine ia_walk (fun _ => false) 50 (fun X hX => ?_)
    conv => whnf
    refine And.intro (fun c0 => ?_) (fun c0 => ?_)
    · exact absurd (show (5 : Int32) = Int32.ofInt 0 from c0) (by decide)
    · skip
      conv => whnf
      refine And.intro (fun c1 => ?_) (fun c1 => ?_)
      · exact absurd (show (5 : Int32) = Int32.ofInt 1 from c1) (by decide)
      · skip
        conv => whnf
        refine And.intro (fun c2 => ?_) (fun c2 => ?_)
        · exact absurd (show (5 : Int32) = Int32.ofInt 2 from c2) (by decide)
        · skip
          conv => whnf
          refine And.intro (fun c3 => ?_) (fun c3 => ?_)
          · exact absurd (show (5 : Int32) = Int32.ofInt 3 from c3) (by decide)
          · skip
            conv => whnf
            refine And.intro (fun c4 => ?_) (fun c4 => ?_)
            · exact absurd (show (5 : Int32) = Int32.ofInt 4 from c4) (by decide)
            · skip
              conv => whnf
              refine And.intro (fun c5 => ?_) (fun c5 => ?_)
              · conv => whnf
                have ev := ia_callE (m_manyOf h 3 n hn en2)
                refine Exists.intro (_, _) (And.intro ev ?_)
                conv => whnf
                exact ⟨by rw [ct_congr (p := fun j => decide (h.1 62 j = 3)) (q := fun j => decide (h.1 26 j = 3)) (fun s hs => by rw [(hw.2.2.2.1 s hs).2.2])], rfl⟩
              · exact absurd rfl c5
theorem q_count6 {h : ia_H} {n G : Nat} {sd : Nat → Bool} {A B : Nat → Nat} (hw : wOk h n G sd A B) (hp : gpOk h G n) (hc : cnOk h G sd A B) (hk : ctOk h) : P_ 88 [.ref 0, .int 6] 164 [.ref 52, .int 6] h := by
  have hn := hw.1.1
  have hG := hw.1.2.1
  have en := hw.2.1
  have eG := hw.2.2.1
  have en2 := hw.1.2.2.1
  have eG2 := hw.1.2.2.2.1
  refine P_of (v := .int (nI (ct (fun j => decide (h.1 26 j = 4)) n))) ?_ ?_
  · refine ia_V_in ia_k_X7_count [some (.ref 0), some (.int 6)] rfl rfl (Nat.le_of_ble_eq_true rfl) rfl ?_
    refine ia_walk (fun _ => false) 50 (fun X hX => ?_)
    conv => whnf
    refine And.intro (fun c0 => ?_) (fun c0 => ?_)
    · exact absurd (show (6 : Int32) = Int32.ofInt 0 from c0) (by decide)
    · skip
      conv => whnf
      refine And.intro (fun c1 => ?_) (fun c1 => ?_)
      · exact absurd (show (6 : Int32) = Int32.ofInt 1 from c1) (by decide)
      · skip
        conv => whnf
        refine And.intro (fun c2 => ?_) (fun c2 => ?_)
        · exact absurd (show (6 : Int32) = Int32.ofInt 2 from c2) (by decide)
        · skip
          conv => whnf
          refine And.intro (fun c3 => ?_) (fun c3 => ?_)
          · exact absurd (show (6 : Int32) = Int32.ofInt 3 from c3) (by decide)
          · skip
            conv => whnf
            refine And.intro (fun c4 => ?_) (fun c4 => ?_)
            · exact absurd (show (6 : Int32) = Int32.ofInt 4 from c4) (by decide)
            · skip
              conv => whnf
              refine And.intro (fun c5 => ?_) (fun c5 => ?_)
              · exact absurd (show (6 : Int32) = Int32.ofInt 5 from c5) (by decide)
              · skip
                conv => whnf
                refine And.intro (fun c6 => ?_) (fun c6 => ?_)
                · conv => whnf
                  obtain ⟨r1, h1, ev, z1, z2⟩ := v_countOf h 4 n hn
                  rw [← en] at ev
                  subst z1
                  refine Exists.intro (_, _) (And.intro ev ?_)
                  conv => whnf
                  exact ⟨rfl, z2⟩
                · exact absurd rfl c6
  · refine ia_V_in ia_k_X8_count [some (.ref 52), some (.int 6)] rfl rfl (Nat.le_of_ble_eq_true rfl) rfl ?_
    refine ia_walk (fun _ => false) 50 (fun X hX => ?_)
    conv => whnf
    refine And.intro (fun c0 => ?_) (fun c0 => ?_)
    · exact absurd (show (6 : Int32) = Int32.ofInt 0 from c0) (by decide)
    · skip
      conv => whnf
      refine And.intro (fun c1 => ?_) (fun c1 => ?_)
      · exact absurd (show (6 : Int32) = Int32.ofInt 1 from c1) (by decide)
      · skip
        conv => whnf
        refine And.intro (fun c2 => ?_) (fun c2 => ?_)
        · exact absurd (show (6 : Int32) = Int32.ofInt 2 from c2) (by decide)
        · skip
          conv => whnf
          refine And.intro (fun c3 => ?_) (fun c3 => ?_)
          · exact absurd (show (6 : Int32) = Int32.ofInt 3 from c3) (by decide)
          · skip
            conv => whnf
            refine And.intro (fun c4 => ?_) (fun c4 => ?_)
            · exact absurd (show (6 : Int32) = Int32.ofInt 4 from c4) (by decide)
            · skip
              conv => whnf
              refine And.intro (fun c5 => ?_) (fun c5 => ?_)
              · exact absurd (show (6 : Int32) = Int32.ofInt 5 from c5) (by decide)
              · skip
                conv => whnf
                refine And.intro (fun c6 => ?_) (fun c6 => ?_)
                · conv => whnf
                  have ev := ia_callE (m_manyOf h 4 n hn en2)
                  refine Exists.intro (_, _) (And.intro ev ?_)
                  conv => whnf
                  exact ⟨by rw [ct_congr (p := fun j => decide (h.1 62 j = 4)) (q := fun j => decide (h.1 26 j = 4)) (fun s hs => by rw [(hw.2.2.2.1 s hs).2.2])], rfl⟩
                · exact absurd rfl c6
theorem q_count7 {h : ia_H} {n G : Nat} {sd : Nat → Bool} {A B : Nat → Nat} (hw : wOk h n G sd A B) (hp : gpOk h G n) (hc : cnOk h G sd A B) (hk : ctOk h) : P_ 88 [.ref 0, .int 7] 164 [.ref 52, .int 7] h := by
  have hn := hw.1.1
  have hG := hw.1.2.1
  have en := hw.2.1
  have eG := hw.2.2.1
  have en2 := hw.1.2.2.1
  have eG2 := hw.1.2.2.2.1
  refine P_of (v := .int (nI (ct (fun j => decide (h.1 27 j = nI j)) G))) ?_ ?_
  · refine ia_V_in ia_k_X7_count [some (.ref 0), some (.int 7)] rfl rfl (Nat.le_of_ble_eq_true rfl) rfl ?_
    refine ia_walk (fun _ => false) 50 (fun X hX => ?_)
    conv => whnf
    refine And.intro (fun c0 => ?_) (fun c0 => ?_)
    · exact absurd (show (7 : Int32) = Int32.ofInt 0 from c0) (by decide)
    · skip
      conv => whnf
      refine And.intro (fun c1 => ?_) (fun c1 => ?_)
      · exact absurd (show (7 : Int32) = Int32.ofInt 1 from c1) (by decide)
      · skip
        conv => whnf
        refine And.intro (fun c2 => ?_) (fun c2 => ?_)
        · exact absurd (show (7 : Int32) = Int32.ofInt 2 from c2) (by decide)
        · skip
          conv => whnf
          refine And.intro (fun c3 => ?_) (fun c3 => ?_)
          · exact absurd (show (7 : Int32) = Int32.ofInt 3 from c3) (by decide)
          · skip
            conv => whnf
            refine And.intro (fun c4 => ?_) (fun c4 => ?_)
            · exact absurd (show (7 : Int32) = Int32.ofInt 4 from c4) (by decide)
            · skip
              conv => whnf
              refine And.intro (fun c5 => ?_) (fun c5 => ?_)
              · exact absurd (show (7 : Int32) = Int32.ofInt 5 from c5) (by decide)
              · skip
                conv => whnf
                refine And.intro (fun c6 => ?_) (fun c6 => ?_)
                · exact absurd (show (7 : Int32) = Int32.ofInt 6 from c6) (by decide)
                · skip
                  conv => whnf
                  refine And.intro (fun c7 => ?_) (fun c7 => ?_)
                  · conv => whnf
                    obtain ⟨r1, h1, ev, z1, z2⟩ := v_countGroups h G hG
                    rw [← eG] at ev
                    subst z1
                    refine Exists.intro (_, _) (And.intro ev ?_)
                    conv => whnf
                    exact ⟨rfl, z2⟩
                  · exact absurd rfl c7
  · refine ia_V_in ia_k_X8_count [some (.ref 52), some (.int 7)] rfl rfl (Nat.le_of_ble_eq_true rfl) rfl ?_
    refine ia_walk (fun _ => false) 50 (fun X hX => ?_)
    conv => whnf
    refine And.intro (fun c0 => ?_) (fun c0 => ?_)
    · exact absurd (show (7 : Int32) = Int32.ofInt 0 from c0) (by decide)
    · skip
      conv => whnf
      refine And.intro (fun c1 => ?_) (fun c1 => ?_)
      · exact absurd (show (7 : Int32) = Int32.ofInt 1 from c1) (by decide)
      · skip
        conv => whnf
        refine And.intro (fun c2 => ?_) (fun c2 => ?_)
        · exact absurd (show (7 : Int32) = Int32.ofInt 2 from c2) (by decide)
        · skip
          conv => whnf
          refine And.intro (fun c3 => ?_) (fun c3 => ?_)
          · exact absurd (show (7 : Int32) = Int32.ofInt 3 from c3) (by decide)
          · skip
            conv => whnf
            refine And.intro (fun c4 => ?_) (fun c4 => ?_)
            · exact absurd (show (7 : Int32) = Int32.ofInt 4 from c4) (by decide)
            · skip
              conv => whnf
              refine And.intro (fun c5 => ?_) (fun c5 => ?_)
              · exact absurd (show (7 : Int32) = Int32.ofInt 5 from c5) (by decide)
              · skip
                conv => whnf
                refine And.intro (fun c6 => ?_) (fun c6 => ?_)
                · exact absurd (show (7 : Int32) = Int32.ofInt 6 from c6) (by decide)
                · skip
                  conv => whnf
                  refine And.intro (fun c7 => ?_) (fun c7 => ?_)
                  · conv => whnf
                    refine Exists.intro (_, _) (And.intro (ia_callE (m_groups h G hG eG2)) ?_)
                    conv => whnf
                    exact ⟨by rw [ct_congr (p := fun j => decide (h.1 60 j = nI j)) (q := fun j => decide (h.1 27 j = nI j)) (fun s hs => by rw [(gp_eq hp hs).1])], rfl⟩
                  · exact absurd rfl c7
theorem q_count8 {h : ia_H} {n G : Nat} {sd : Nat → Bool} {A B : Nat → Nat} (hw : wOk h n G sd A B) (hp : gpOk h G n) (hc : cnOk h G sd A B) (hk : ctOk h) : P_ 88 [.ref 0, .int 8] 164 [.ref 52, .int 8] h := by
  have hn := hw.1.1
  have hG := hw.1.2.1
  have en := hw.2.1
  have eG := hw.2.2.1
  have en2 := hw.1.2.2.1
  have eG2 := hw.1.2.2.2.1
  refine P_of (v := .int (nI (ct2 (fun g j => decide (h.1 60 g = h.1 60 j)) G))) ?_ ?_
  · refine ia_V_in ia_k_X7_count [some (.ref 0), some (.int 8)] rfl rfl (Nat.le_of_ble_eq_true rfl) rfl ?_
    refine ia_walk (fun _ => false) 50 (fun X hX => ?_)
    conv => whnf
    refine And.intro (fun c0 => ?_) (fun c0 => ?_)
    · exact absurd (show (8 : Int32) = Int32.ofInt 0 from c0) (by decide)
    · skip
      conv => whnf
      refine And.intro (fun c1 => ?_) (fun c1 => ?_)
      · exact absurd (show (8 : Int32) = Int32.ofInt 1 from c1) (by decide)
      · skip
        conv => whnf
        refine And.intro (fun c2 => ?_) (fun c2 => ?_)
        · exact absurd (show (8 : Int32) = Int32.ofInt 2 from c2) (by decide)
        · skip
          conv => whnf
          refine And.intro (fun c3 => ?_) (fun c3 => ?_)
          · exact absurd (show (8 : Int32) = Int32.ofInt 3 from c3) (by decide)
          · skip
            conv => whnf
            refine And.intro (fun c4 => ?_) (fun c4 => ?_)
            · exact absurd (show (8 : Int32) = Int32.ofInt 4 from c4) (by decide)
            · skip
              conv => whnf
              refine And.intro (fun c5 => ?_) (fun c5 => ?_)
              · exact absurd (show (8 : Int32) = Int32.ofInt 5 from c5) (by decide)
              · skip
                conv => whnf
                refine And.intro (fun c6 => ?_) (fun c6 => ?_)
                · exact absurd (show (8 : Int32) = Int32.ofInt 6 from c6) (by decide)
                · skip
                  conv => whnf
                  refine And.intro (fun c7 => ?_) (fun c7 => ?_)
                  · exact absurd (show (8 : Int32) = Int32.ofInt 7 from c7) (by decide)
                  · skip
                    conv => whnf
                    refine And.intro (fun c8 => ?_) (fun c8 => ?_)
                    · conv => whnf
                      refine Exists.intro (_, _) (And.intro (ia_callE (v_countKnownTwos h)) ?_)
                      conv => whnf
                      exact ⟨by rw [ct2_stop hG (fun g j h1 h2 h3 => decide_eq_false (gp_ne hG hp h3 h1 h2)), ct2_congr (p := fun g j => decide (h.1 27 g = h.1 27 j)) (q := fun g j => decide (h.1 60 g = h.1 60 j)) (fun g j h1 h2 => by rw [(gp_eq hp h1).1, (gp_eq hp (show j < G by omega)).1])], rfl⟩
                    · exact absurd rfl c8
  · refine ia_V_in ia_k_X8_count [some (.ref 52), some (.int 8)] rfl rfl (Nat.le_of_ble_eq_true rfl) rfl ?_
    refine ia_walk (fun _ => false) 50 (fun X hX => ?_)
    conv => whnf
    refine And.intro (fun c0 => ?_) (fun c0 => ?_)
    · exact absurd (show (8 : Int32) = Int32.ofInt 0 from c0) (by decide)
    · skip
      conv => whnf
      refine And.intro (fun c1 => ?_) (fun c1 => ?_)
      · exact absurd (show (8 : Int32) = Int32.ofInt 1 from c1) (by decide)
      · skip
        conv => whnf
        refine And.intro (fun c2 => ?_) (fun c2 => ?_)
        · exact absurd (show (8 : Int32) = Int32.ofInt 2 from c2) (by decide)
        · skip
          conv => whnf
          refine And.intro (fun c3 => ?_) (fun c3 => ?_)
          · exact absurd (show (8 : Int32) = Int32.ofInt 3 from c3) (by decide)
          · skip
            conv => whnf
            refine And.intro (fun c4 => ?_) (fun c4 => ?_)
            · exact absurd (show (8 : Int32) = Int32.ofInt 4 from c4) (by decide)
            · skip
              conv => whnf
              refine And.intro (fun c5 => ?_) (fun c5 => ?_)
              · exact absurd (show (8 : Int32) = Int32.ofInt 5 from c5) (by decide)
              · skip
                conv => whnf
                refine And.intro (fun c6 => ?_) (fun c6 => ?_)
                · exact absurd (show (8 : Int32) = Int32.ofInt 6 from c6) (by decide)
                · skip
                  conv => whnf
                  refine And.intro (fun c7 => ?_) (fun c7 => ?_)
                  · exact absurd (show (8 : Int32) = Int32.ofInt 7 from c7) (by decide)
                  · skip
                    conv => whnf
                    refine And.intro (fun c8 => ?_) (fun c8 => ?_)
                    · conv => whnf
                      refine Exists.intro (_, _) (And.intro (ia_callE (m_knownTwos h G hG eG2)) ?_)
                      conv => whnf
                      exact ⟨rfl, rfl⟩
                    · exact absurd rfl c8
theorem q_count9 {h : ia_H} {n G : Nat} {sd : Nat → Bool} {A B : Nat → Nat} (hw : wOk h n G sd A B) (hp : gpOk h G n) (hc : cnOk h G sd A B) (hk : ctOk h) : P_ 88 [.ref 0, .int 9] 164 [.ref 52, .int 9] h := by
  have hn := hw.1.1
  have hG := hw.1.2.1
  have en := hw.2.1
  have eG := hw.2.2.1
  have en2 := hw.1.2.2.1
  have eG2 := hw.1.2.2.2.1
  refine P_two (v := .int (nI (ct (fun s => decide (0 < rlM sd A B s)) n))) ?_ (fun K hf => ?_)
  · refine ia_V_in ia_k_X7_count [some (.ref 0), some (.int 9)] rfl rfl (Nat.le_of_ble_eq_true rfl) rfl ?_
    refine ia_walk (fun _ => false) 50 (fun X hX => ?_)
    conv => whnf
    refine And.intro (fun c0 => ?_) (fun c0 => ?_)
    · exact absurd (show (9 : Int32) = Int32.ofInt 0 from c0) (by decide)
    · skip
      conv => whnf
      refine And.intro (fun c1 => ?_) (fun c1 => ?_)
      · exact absurd (show (9 : Int32) = Int32.ofInt 1 from c1) (by decide)
      · skip
        conv => whnf
        refine And.intro (fun c2 => ?_) (fun c2 => ?_)
        · exact absurd (show (9 : Int32) = Int32.ofInt 2 from c2) (by decide)
        · skip
          conv => whnf
          refine And.intro (fun c3 => ?_) (fun c3 => ?_)
          · exact absurd (show (9 : Int32) = Int32.ofInt 3 from c3) (by decide)
          · skip
            conv => whnf
            refine And.intro (fun c4 => ?_) (fun c4 => ?_)
            · exact absurd (show (9 : Int32) = Int32.ofInt 4 from c4) (by decide)
            · skip
              conv => whnf
              refine And.intro (fun c5 => ?_) (fun c5 => ?_)
              · exact absurd (show (9 : Int32) = Int32.ofInt 5 from c5) (by decide)
              · skip
                conv => whnf
                refine And.intro (fun c6 => ?_) (fun c6 => ?_)
                · exact absurd (show (9 : Int32) = Int32.ofInt 6 from c6) (by decide)
                · skip
                  conv => whnf
                  refine And.intro (fun c7 => ?_) (fun c7 => ?_)
                  · exact absurd (show (9 : Int32) = Int32.ofInt 7 from c7) (by decide)
                  · skip
                    conv => whnf
                    refine And.intro (fun c8 => ?_) (fun c8 => ?_)
                    · exact absurd (show (9 : Int32) = Int32.ofInt 8 from c8) (by decide)
                    · skip
                      conv => whnf
                      refine And.intro (fun c9 => ?_) (fun c9 => ?_)
                      · conv => whnf
                        obtain ⟨r1, h1, ev1, z1, z2⟩ := v_cHang hw
                        subst z1
                        refine Exists.intro (_, _) (And.intro ev1 ?_)
                        conv => whnf
                        exact ⟨rfl, z2⟩
                      · exact absurd rfl c9
  · refine ia_V_in ia_k_X8_count [some (.ref 52), some (.int 9)] rfl rfl (Nat.le_of_ble_eq_true rfl) rfl ?_
    refine ia_walk (fun _ => false) 50 (fun X hX => ?_)
    conv => whnf
    refine And.intro (fun c0 => ?_) (fun c0 => ?_)
    · exact absurd (show (9 : Int32) = Int32.ofInt 0 from c0) (by decide)
    · skip
      conv => whnf
      refine And.intro (fun c1 => ?_) (fun c1 => ?_)
      · exact absurd (show (9 : Int32) = Int32.ofInt 1 from c1) (by decide)
      · skip
        conv => whnf
        refine And.intro (fun c2 => ?_) (fun c2 => ?_)
        · exact absurd (show (9 : Int32) = Int32.ofInt 2 from c2) (by decide)
        · skip
          conv => whnf
          refine And.intro (fun c3 => ?_) (fun c3 => ?_)
          · exact absurd (show (9 : Int32) = Int32.ofInt 3 from c3) (by decide)
          · skip
            conv => whnf
            refine And.intro (fun c4 => ?_) (fun c4 => ?_)
            · exact absurd (show (9 : Int32) = Int32.ofInt 4 from c4) (by decide)
            · skip
              conv => whnf
              refine And.intro (fun c5 => ?_) (fun c5 => ?_)
              · exact absurd (show (9 : Int32) = Int32.ofInt 5 from c5) (by decide)
              · skip
                conv => whnf
                refine And.intro (fun c6 => ?_) (fun c6 => ?_)
                · exact absurd (show (9 : Int32) = Int32.ofInt 6 from c6) (by decide)
                · skip
                  conv => whnf
                  refine And.intro (fun c7 => ?_) (fun c7 => ?_)
                  · exact absurd (show (9 : Int32) = Int32.ofInt 7 from c7) (by decide)
                  · skip
                    conv => whnf
                    refine And.intro (fun c8 => ?_) (fun c8 => ?_)
                    · exact absurd (show (9 : Int32) = Int32.ofInt 8 from c8) (by decide)
                    · skip
                      conv => whnf
                      refine And.intro (fun c9 => ?_) (fun c9 => ?_)
                      · conv => whnf
                        obtain ⟨r1, h1, ev1, z1, z2⟩ := m_hanging K sd A B n G (wOk_fr hw hf) (cnOk_fr hc hf)
                        subst z1
                        refine Exists.intro (_, _) (And.intro ev1 ?_)
                        conv => whnf
                        exact ⟨rfl, z2⟩
                      · exact absurd rfl c9
theorem q_count10 {h : ia_H} {n G : Nat} {sd : Nat → Bool} {A B : Nat → Nat} (hw : wOk h n G sd A B) (hp : gpOk h G n) (hc : cnOk h G sd A B) (hk : ctOk h) : P_ 88 [.ref 0, .int 10] 164 [.ref 52, .int 10] h := by
  have hn := hw.1.1
  have hG := hw.1.2.1
  have en := hw.2.1
  have eG := hw.2.2.1
  have en2 := hw.1.2.2.1
  have eG2 := hw.1.2.2.2.1
  refine P_of (v := .int (h.1 52 22)) ?_ ?_
  · refine ia_V_in ia_k_X7_count [some (.ref 0), some (.int 10)] rfl rfl (Nat.le_of_ble_eq_true rfl) rfl ?_
    refine ia_walk (fun _ => false) 50 (fun X hX => ?_)
    conv => whnf
    refine And.intro (fun c0 => ?_) (fun c0 => ?_)
    · exact absurd (show (10 : Int32) = Int32.ofInt 0 from c0) (by decide)
    · skip
      conv => whnf
      refine And.intro (fun c1 => ?_) (fun c1 => ?_)
      · exact absurd (show (10 : Int32) = Int32.ofInt 1 from c1) (by decide)
      · skip
        conv => whnf
        refine And.intro (fun c2 => ?_) (fun c2 => ?_)
        · exact absurd (show (10 : Int32) = Int32.ofInt 2 from c2) (by decide)
        · skip
          conv => whnf
          refine And.intro (fun c3 => ?_) (fun c3 => ?_)
          · exact absurd (show (10 : Int32) = Int32.ofInt 3 from c3) (by decide)
          · skip
            conv => whnf
            refine And.intro (fun c4 => ?_) (fun c4 => ?_)
            · exact absurd (show (10 : Int32) = Int32.ofInt 4 from c4) (by decide)
            · skip
              conv => whnf
              refine And.intro (fun c5 => ?_) (fun c5 => ?_)
              · exact absurd (show (10 : Int32) = Int32.ofInt 5 from c5) (by decide)
              · skip
                conv => whnf
                refine And.intro (fun c6 => ?_) (fun c6 => ?_)
                · exact absurd (show (10 : Int32) = Int32.ofInt 6 from c6) (by decide)
                · skip
                  conv => whnf
                  refine And.intro (fun c7 => ?_) (fun c7 => ?_)
                  · exact absurd (show (10 : Int32) = Int32.ofInt 7 from c7) (by decide)
                  · skip
                    conv => whnf
                    refine And.intro (fun c8 => ?_) (fun c8 => ?_)
                    · exact absurd (show (10 : Int32) = Int32.ofInt 8 from c8) (by decide)
                    · skip
                      conv => whnf
                      refine And.intro (fun c9 => ?_) (fun c9 => ?_)
                      · exact absurd (show (10 : Int32) = Int32.ofInt 9 from c9) (by decide)
                      · skip
                        conv => whnf
                        refine And.intro (fun c10 => ?_) (fun c10 => ?_)
                        · conv => whnf
                          exact ⟨congrArg (fun v => some (Value.int v)) hk.1, rfl⟩
                        · exact absurd rfl c10
  · refine ia_V_in ia_k_X8_count [some (.ref 52), some (.int 10)] rfl rfl (Nat.le_of_ble_eq_true rfl) rfl ?_
    refine ia_walk (fun _ => false) 50 (fun X hX => ?_)
    conv => whnf
    refine And.intro (fun c0 => ?_) (fun c0 => ?_)
    · exact absurd (show (10 : Int32) = Int32.ofInt 0 from c0) (by decide)
    · skip
      conv => whnf
      refine And.intro (fun c1 => ?_) (fun c1 => ?_)
      · exact absurd (show (10 : Int32) = Int32.ofInt 1 from c1) (by decide)
      · skip
        conv => whnf
        refine And.intro (fun c2 => ?_) (fun c2 => ?_)
        · exact absurd (show (10 : Int32) = Int32.ofInt 2 from c2) (by decide)
        · skip
          conv => whnf
          refine And.intro (fun c3 => ?_) (fun c3 => ?_)
          · exact absurd (show (10 : Int32) = Int32.ofInt 3 from c3) (by decide)
          · skip
            conv => whnf
            refine And.intro (fun c4 => ?_) (fun c4 => ?_)
            · exact absurd (show (10 : Int32) = Int32.ofInt 4 from c4) (by decide)
            · skip
              conv => whnf
              refine And.intro (fun c5 => ?_) (fun c5 => ?_)
              · exact absurd (show (10 : Int32) = Int32.ofInt 5 from c5) (by decide)
              · skip
                conv => whnf
                refine And.intro (fun c6 => ?_) (fun c6 => ?_)
                · exact absurd (show (10 : Int32) = Int32.ofInt 6 from c6) (by decide)
                · skip
                  conv => whnf
                  refine And.intro (fun c7 => ?_) (fun c7 => ?_)
                  · exact absurd (show (10 : Int32) = Int32.ofInt 7 from c7) (by decide)
                  · skip
                    conv => whnf
                    refine And.intro (fun c8 => ?_) (fun c8 => ?_)
                    · exact absurd (show (10 : Int32) = Int32.ofInt 8 from c8) (by decide)
                    · skip
                      conv => whnf
                      refine And.intro (fun c9 => ?_) (fun c9 => ?_)
                      · exact absurd (show (10 : Int32) = Int32.ofInt 9 from c9) (by decide)
                      · skip
                        conv => whnf
                        refine And.intro (fun c10 => ?_) (fun c10 => ?_)
                        · conv => whnf
                          exact ⟨rfl, rfl⟩
                        · exact absurd rfl c10
theorem q_count11 {h : ia_H} {n G : Nat} {sd : Nat → Bool} {A B : Nat → Nat} (hw : wOk h n G sd A B) (hp : gpOk h G n) (hc : cnOk h G sd A B) (hk : ctOk h) : P_ 88 [.ref 0, .int 11] 164 [.ref 52, .int 11] h := by
  have hn := hw.1.1
  have hG := hw.1.2.1
  have en := hw.2.1
  have eG := hw.2.2.1
  have en2 := hw.1.2.2.1
  have eG2 := hw.1.2.2.2.1
  refine P_of (v := .int (h.1 52 1)) ?_ ?_
  · refine ia_V_in ia_k_X7_count [some (.ref 0), some (.int 11)] rfl rfl (Nat.le_of_ble_eq_true rfl) rfl ?_
    refine ia_walk (fun _ => false) 50 (fun X hX => ?_)
    conv => whnf
    refine And.intro (fun c0 => ?_) (fun c0 => ?_)
    · exact absurd (show (11 : Int32) = Int32.ofInt 0 from c0) (by decide)
    · skip
      conv => whnf
      refine And.intro (fun c1 => ?_) (fun c1 => ?_)
      · exact absurd (show (11 : Int32) = Int32.ofInt 1 from c1) (by decide)
      · skip
        conv => whnf
        refine And.intro (fun c2 => ?_) (fun c2 => ?_)
        · exact absurd (show (11 : Int32) = Int32.ofInt 2 from c2) (by decide)
        · skip
          conv => whnf
          refine And.intro (fun c3 => ?_) (fun c3 => ?_)
          · exact absurd (show (11 : Int32) = Int32.ofInt 3 from c3) (by decide)
          · skip
            conv => whnf
            refine And.intro (fun c4 => ?_) (fun c4 => ?_)
            · exact absurd (show (11 : Int32) = Int32.ofInt 4 from c4) (by decide)
            · skip
              conv => whnf
              refine And.intro (fun c5 => ?_) (fun c5 => ?_)
              · exact absurd (show (11 : Int32) = Int32.ofInt 5 from c5) (by decide)
              · skip
                conv => whnf
                refine And.intro (fun c6 => ?_) (fun c6 => ?_)
                · exact absurd (show (11 : Int32) = Int32.ofInt 6 from c6) (by decide)
                · skip
                  conv => whnf
                  refine And.intro (fun c7 => ?_) (fun c7 => ?_)
                  · exact absurd (show (11 : Int32) = Int32.ofInt 7 from c7) (by decide)
                  · skip
                    conv => whnf
                    refine And.intro (fun c8 => ?_) (fun c8 => ?_)
                    · exact absurd (show (11 : Int32) = Int32.ofInt 8 from c8) (by decide)
                    · skip
                      conv => whnf
                      refine And.intro (fun c9 => ?_) (fun c9 => ?_)
                      · exact absurd (show (11 : Int32) = Int32.ofInt 9 from c9) (by decide)
                      · skip
                        conv => whnf
                        refine And.intro (fun c10 => ?_) (fun c10 => ?_)
                        · exact absurd (show (11 : Int32) = Int32.ofInt 10 from c10) (by decide)
                        · skip
                          conv => whnf
                          refine And.intro (fun c11 => ?_) (fun c11 => ?_)
                          · conv => whnf
                            exact ⟨congrArg (fun v => some (Value.int v)) hk.2, rfl⟩
                          · exact absurd rfl c11
  · refine ia_V_in ia_k_X8_count [some (.ref 52), some (.int 11)] rfl rfl (Nat.le_of_ble_eq_true rfl) rfl ?_
    refine ia_walk (fun _ => false) 50 (fun X hX => ?_)
    conv => whnf
    refine And.intro (fun c0 => ?_) (fun c0 => ?_)
    · exact absurd (show (11 : Int32) = Int32.ofInt 0 from c0) (by decide)
    · skip
      conv => whnf
      refine And.intro (fun c1 => ?_) (fun c1 => ?_)
      · exact absurd (show (11 : Int32) = Int32.ofInt 1 from c1) (by decide)
      · skip
        conv => whnf
        refine And.intro (fun c2 => ?_) (fun c2 => ?_)
        · exact absurd (show (11 : Int32) = Int32.ofInt 2 from c2) (by decide)
        · skip
          conv => whnf
          refine And.intro (fun c3 => ?_) (fun c3 => ?_)
          · exact absurd (show (11 : Int32) = Int32.ofInt 3 from c3) (by decide)
          · skip
            conv => whnf
            refine And.intro (fun c4 => ?_) (fun c4 => ?_)
            · exact absurd (show (11 : Int32) = Int32.ofInt 4 from c4) (by decide)
            · skip
              conv => whnf
              refine And.intro (fun c5 => ?_) (fun c5 => ?_)
              · exact absurd (show (11 : Int32) = Int32.ofInt 5 from c5) (by decide)
              · skip
                conv => whnf
                refine And.intro (fun c6 => ?_) (fun c6 => ?_)
                · exact absurd (show (11 : Int32) = Int32.ofInt 6 from c6) (by decide)
                · skip
                  conv => whnf
                  refine And.intro (fun c7 => ?_) (fun c7 => ?_)
                  · exact absurd (show (11 : Int32) = Int32.ofInt 7 from c7) (by decide)
                  · skip
                    conv => whnf
                    refine And.intro (fun c8 => ?_) (fun c8 => ?_)
                    · exact absurd (show (11 : Int32) = Int32.ofInt 8 from c8) (by decide)
                    · skip
                      conv => whnf
                      refine And.intro (fun c9 => ?_) (fun c9 => ?_)
                      · exact absurd (show (11 : Int32) = Int32.ofInt 9 from c9) (by decide)
                      · skip
                        conv => whnf
                        refine And.intro (fun c10 => ?_) (fun c10 => ?_)
                        · exact absurd (show (11 : Int32) = Int32.ofInt 10 from c10) (by decide)
                        · skip
                          conv => whnf
                          refine And.intro (fun c11 => ?_) (fun c11 => ?_)
                          · conv => whnf
                            exact ⟨rfl, rfl⟩
                          · exact absurd rfl c11
theorem q_count {h : ia_H} {n G : Nat} {sd : Nat → Bool} {A B : Nat → Nat} (hw : wOk h n G sd A B) (hp : gpOk h G n) (hc : cnOk h G sd A B) (hk : ctOk h) (x : Int32) : P_ 88 [.ref 0, .int x] 164 [.ref 52, .int x] h := by
  by_cases hx : ∀ j : Int, j ∈ [0, 1, 2, 3, 4, 5, 6, 7, 8, 9, 10, 11] → ¬ x = Int32.ofInt j
  · refine P_of (v := .int (-1)) ?_ ?_
    · refine ia_V_in ia_k_X7_count [some (.ref 0), some (.int x)] rfl rfl (Nat.le_of_ble_eq_true rfl) rfl ?_
      refine ia_walk (fun _ => false) 50 (fun X hX => ?_)
      conv => whnf
      refine And.intro (fun c0 => ?_) (fun c0 => ?_)
      · exact absurd c0 (hx 0 (by decide))
      · skip
        conv => whnf
        refine And.intro (fun c1 => ?_) (fun c1 => ?_)
        · exact absurd c1 (hx 1 (by decide))
        · skip
          conv => whnf
          refine And.intro (fun c2 => ?_) (fun c2 => ?_)
          · exact absurd c2 (hx 2 (by decide))
          · skip
            conv => whnf
            refine And.intro (fun c3 => ?_) (fun c3 => ?_)
            · exact absurd c3 (hx 3 (by decide))
            · skip
              conv => whnf
              refine And.intro (fun c4 => ?_) (fun c4 => ?_)
              · exact absurd c4 (hx 4 (by decide))
              · skip
                conv => whnf
                refine And.intro (fun c5 => ?_) (fun c5 => ?_)
                · exact absurd c5 (hx 5 (by decide))
                · skip
                  conv => whnf
                  refine And.intro (fun c6 => ?_) (fun c6 => ?_)
                  · exact absurd c6 (hx 6 (by decide))
                  · skip
                    conv => whnf
                    refine And.intro (fun c7 => ?_) (fun c7 => ?_)
                    · exact absurd c7 (hx 7 (by decide))
                    · skip
                      conv => whnf
                      refine And.intro (fun c8 => ?_) (fun c8 => ?_)
                      · exact absurd c8 (hx 8 (by decide))
                      · skip
                        conv => whnf
                        refine And.intro (fun c9 => ?_) (fun c9 => ?_)
                        · exact absurd c9 (hx 9 (by decide))
                        · skip
                          conv => whnf
                          refine And.intro (fun c10 => ?_) (fun c10 => ?_)
                          · exact absurd c10 (hx 10 (by decide))
                          · skip
                            conv => whnf
                            refine And.intro (fun c11 => ?_) (fun c11 => ?_)
                            · exact absurd c11 (hx 11 (by decide))
                            · skip
                              conv => whnf
                              exact ⟨rfl, rfl⟩
    · refine ia_V_in ia_k_X8_count [some (.ref 52), some (.int x)] rfl rfl (Nat.le_of_ble_eq_true rfl) rfl ?_
      refine ia_walk (fun _ => false) 50 (fun X hX => ?_)
      conv => whnf
      refine And.intro (fun c0 => ?_) (fun c0 => ?_)
      · exact absurd c0 (hx 0 (by decide))
      · skip
        conv => whnf
        refine And.intro (fun c1 => ?_) (fun c1 => ?_)
        · exact absurd c1 (hx 1 (by decide))
        · skip
          conv => whnf
          refine And.intro (fun c2 => ?_) (fun c2 => ?_)
          · exact absurd c2 (hx 2 (by decide))
          · skip
            conv => whnf
            refine And.intro (fun c3 => ?_) (fun c3 => ?_)
            · exact absurd c3 (hx 3 (by decide))
            · skip
              conv => whnf
              refine And.intro (fun c4 => ?_) (fun c4 => ?_)
              · exact absurd c4 (hx 4 (by decide))
              · skip
                conv => whnf
                refine And.intro (fun c5 => ?_) (fun c5 => ?_)
                · exact absurd c5 (hx 5 (by decide))
                · skip
                  conv => whnf
                  refine And.intro (fun c6 => ?_) (fun c6 => ?_)
                  · exact absurd c6 (hx 6 (by decide))
                  · skip
                    conv => whnf
                    refine And.intro (fun c7 => ?_) (fun c7 => ?_)
                    · exact absurd c7 (hx 7 (by decide))
                    · skip
                      conv => whnf
                      refine And.intro (fun c8 => ?_) (fun c8 => ?_)
                      · exact absurd c8 (hx 8 (by decide))
                      · skip
                        conv => whnf
                        refine And.intro (fun c9 => ?_) (fun c9 => ?_)
                        · exact absurd c9 (hx 9 (by decide))
                        · skip
                          conv => whnf
                          refine And.intro (fun c10 => ?_) (fun c10 => ?_)
                          · exact absurd c10 (hx 10 (by decide))
                          · skip
                            conv => whnf
                            refine And.intro (fun c11 => ?_) (fun c11 => ?_)
                            · exact absurd c11 (hx 11 (by decide))
                            · skip
                              conv => whnf
                              exact ⟨rfl, rfl⟩
  · obtain ⟨j, hj⟩ := Classical.not_forall.mp hx
    obtain ⟨hj, hxj⟩ := Classical.not_imp.mp hj
    have hxj := Classical.not_not.mp hxj
    simp only [List.mem_cons, List.not_mem_nil, or_false] at hj
    rcases hj with rfl | rfl | rfl | rfl | rfl | rfl | rfl | rfl | rfl | rfl | rfl | rfl <;> subst hxj
    · exact q_count0 hw hp hc hk
    · exact q_count1 hw hp hc hk
    · exact q_count2 hw hp hc hk
    · exact q_count3 hw hp hc hk
    · exact q_count4 hw hp hc hk
    · exact q_count5 hw hp hc hk
    · exact q_count6 hw hp hc hk
    · exact q_count7 hw hp hc hk
    · exact q_count8 hw hp hc hk
    · exact q_count9 hw hp hc hk
    · exact q_count10 hw hp hc hk
    · exact q_count11 hw hp hc hk
theorem q_st {h : ia_H} {n G : Nat} {sd : Nat → Bool} {A B : Nat → Nat} (hw : wOk h n G sd A B) (hc : cnOk h G sd A B) (x w : Int32) : P_ 70 [.ref 0, .int x, .int w] 135 [.ref 52, .int x, .int w] h := by
  have hn := hw.1.1
  have hG := hw.1.2.1
  have en := hw.2.1
  have eG := hw.2.2.1
  have en2 := hw.1.2.2.1
  have eG2 := hw.1.2.2.2.1
  rcases bad_or x (show n < 2 ^ 31 by omega) with hb | ⟨s, hs, rfl⟩
  · refine P_of (v := .int (-1)) ?_ ?_
    · refine ia_V_in ia_k_X7_statement [some (.ref 0), some (.int x), some (.int w)] rfl rfl (Nat.le_of_ble_eq_true rfl) rfl ?_
      refine ia_walk (fun _ => false) 50 (fun X hX => ?_)
      conv => whnf
      refine Exists.intro (_, _) (And.intro (ia_callE (v_isSt0 en hb)) ?_)
      conv => whnf
      refine And.intro (fun c => ?_) (fun c => ?_)
      · conv => whnf
        exact ⟨rfl, rfl⟩
      · exact absurd rfl c
    · refine ia_V_in ia_k_X8_statement [some (.ref 52), some (.int x), some (.int w)] rfl rfl (Nat.le_of_ble_eq_true rfl) rfl ?_
      refine ia_walk (fun _ => false) 50 (fun X hX => ?_)
      conv => whnf
      refine Exists.intro (_, _) (And.intro (ia_callE (m_isSt0 en2 hb)) ?_)
      conv => whnf
      refine And.intro (fun c => ?_) (fun c => ?_)
      · conv => whnf
        exact ⟨rfl, rfl⟩
      · exact absurd rfl c
  · by_cases hx : ∀ j : Int, j ∈ [0, 1, 2, 3, 4] → ¬ w = Int32.ofInt j
    · have e04 : (if (0 : Int64) ≤ w.toInt64 ∧ w.toInt64 ≤ 4 then (1 : Int32) else 0) = 0 := if_neg (fun q => (not04 hx) ((in64 w 0 4).mp q))
      have hin := m_isIn h w.toInt64 0 4
      rw [e04] at hin
      refine P_of (v := .int (-1)) ?_ ?_
      · refine ia_V_in ia_k_X7_statement [some (.ref 0), some (.int (nI s)), some (.int w)] rfl rfl (Nat.le_of_ble_eq_true rfl) rfl ?_
        refine ia_walk (fun _ => false) 50 (fun X hX => ?_)
        conv => whnf
        refine Exists.intro (_, _) (And.intro (ia_callE (v_isSt1 en (by omega) hs)) ?_)
        conv => whnf
        refine And.intro (fun c => ?_) (fun c => ?_)
        · exact absurd (show (1 : Int32) = 0 from c) (by decide)
        · skip
          conv => whnf
          refine And.intro (fun c0 => ?_) (fun c0 => ?_)
          · exact absurd c0 (hx 0 (by decide))
          · skip
            conv => whnf
            refine And.intro (fun c1 => ?_) (fun c1 => ?_)
            · exact absurd c1 (hx 1 (by decide))
            · skip
              conv => whnf
              refine And.intro (fun c2 => ?_) (fun c2 => ?_)
              · exact absurd c2 (hx 2 (by decide))
              · skip
                conv => whnf
                refine And.intro (fun c3 => ?_) (fun c3 => ?_)
                · exact absurd c3 (hx 3 (by decide))
                · skip
                  conv => whnf
                  refine And.intro (fun c4 => ?_) (fun c4 => ?_)
                  · exact absurd c4 (hx 4 (by decide))
                  · skip
                    conv => whnf
                    exact ⟨rfl, rfl⟩
      · refine ia_V_in ia_k_X8_statement [some (.ref 52), some (.int (nI s)), some (.int w)] rfl rfl (Nat.le_of_ble_eq_true rfl) rfl ?_
        refine ia_walk (fun _ => false) 50 (fun X hX => ?_)
        conv => whnf
        refine Exists.intro (_, _) (And.intro (ia_callE (m_isSt1 en2 (by omega) hs)) ?_)
        conv => whnf
        refine And.intro (fun c => ?_) (fun c => ?_)
        · exact absurd (show (1 : Int32) = 0 from c) (by decide)
        · conv => whnf
          refine Exists.intro (_, _) (And.intro (ia_callE (hin)) ?_)
          conv => whnf
          refine And.intro (fun c => ?_) (fun c => ?_)
          · conv => whnf
            exact ⟨rfl, rfl⟩
          · exact absurd rfl c
    · obtain ⟨j, hj⟩ := Classical.not_forall.mp hx
      obtain ⟨hj, hxj⟩ := Classical.not_imp.mp hj
      have hxj := Classical.not_not.mp hxj
      obtain ⟨s1, s2, s3, s4, s5, s6⟩ := hw.1.2.2.2.2.1 s hs
      obtain ⟨t1, t2, t3⟩ := hw.2.2.2.1 s hs
      simp only [List.mem_cons, List.not_mem_nil, or_false] at hj
      rcases hj with rfl | rfl | rfl | rfl | rfl <;> subst hxj
      · refine P_of (v := .int (h.1 26 s)) ?_ ?_
        · refine ia_V_in ia_k_X7_statement [some (.ref 0), some (.int (nI s)), some (.int 0)] rfl rfl (Nat.le_of_ble_eq_true rfl) rfl ?_
          refine ia_walk (fun _ => false) 50 (fun X hX => ?_)
          conv => whnf
          refine Exists.intro (_, _) (And.intro (ia_callE (v_isSt1 en (by omega) hs)) ?_)
          conv => whnf
          refine And.intro (fun c => ?_) (fun c => ?_)
          · exact absurd (show (1 : Int32) = 0 from c) (by decide)
          · skip
            conv => whnf
            refine And.intro (fun c0 => ?_) (fun c0 => ?_)
            · conv => whnf
              refine Exists.intro _ (And.intro (And.intro rfl (by omega)) ?_)
              conv => whnf
              exact ⟨rfl, rfl⟩
            · exact absurd rfl c0
        · refine ia_V_in ia_k_X8_statement [some (.ref 52), some (.int (nI s)), some (.int 0)] rfl rfl (Nat.le_of_ble_eq_true rfl) rfl ?_
          refine ia_walk (fun _ => false) 50 (fun X hX => ?_)
          conv => whnf
          refine Exists.intro (_, _) (And.intro (ia_callE (m_isSt1 en2 (by omega) hs)) ?_)
          conv => whnf
          refine And.intro (fun c => ?_) (fun c => ?_)
          · exact absurd (show (1 : Int32) = 0 from c) (by decide)
          · have hin := m_isIn h (Int32.toInt64 0) 0 4
            rw [show (if (0 : Int64) ≤ Int32.toInt64 0 ∧ Int32.toInt64 0 ≤ 4 then (1 : Int32) else 0) = 1 by decide] at hin
            conv => whnf
            refine Exists.intro (_, _) (And.intro (ia_callE (hin)) ?_)
            conv => whnf
            refine And.intro (fun c => ?_) (fun c => ?_)
            · exact absurd (show (1 : Int32) = 0 from c) (by decide)
            · skip
              conv => whnf
              refine And.intro (fun c0 => ?_) (fun c0 => ?_)
              · conv => whnf
                refine Exists.intro _ (And.intro (And.intro rfl (by omega)) ?_)
                conv => whnf
                exact ⟨congrArg (fun v => some (Value.int v)) t3.symm, rfl⟩
              · exact absurd rfl c0
      · refine P_of (v := .int (nI (A s))) ?_ ?_
        · refine ia_V_in ia_k_X7_statement [some (.ref 0), some (.int (nI s)), some (.int 1)] rfl rfl (Nat.le_of_ble_eq_true rfl) rfl ?_
          refine ia_walk (fun _ => false) 50 (fun X hX => ?_)
          conv => whnf
          refine Exists.intro (_, _) (And.intro (ia_callE (v_isSt1 en (by omega) hs)) ?_)
          conv => whnf
          refine And.intro (fun c => ?_) (fun c => ?_)
          · exact absurd (show (1 : Int32) = 0 from c) (by decide)
          · skip
            conv => whnf
            refine And.intro (fun c0 => ?_) (fun c0 => ?_)
            · exact absurd (show (1 : Int32) = Int32.ofInt 0 from c0) (by decide)
            · skip
              conv => whnf
              refine And.intro (fun c1 => ?_) (fun c1 => ?_)
              · conv => whnf
                refine Exists.intro _ (And.intro (And.intro rfl (by omega)) ?_)
                conv => whnf
                exact ⟨congrArg (fun v => some (Value.int v)) t1, rfl⟩
              · exact absurd rfl c1
        · refine ia_V_in ia_k_X8_statement [some (.ref 52), some (.int (nI s)), some (.int 1)] rfl rfl (Nat.le_of_ble_eq_true rfl) rfl ?_
          refine ia_walk (fun _ => false) 50 (fun X hX => ?_)
          conv => whnf
          refine Exists.intro (_, _) (And.intro (ia_callE (m_isSt1 en2 (by omega) hs)) ?_)
          conv => whnf
          refine And.intro (fun c => ?_) (fun c => ?_)
          · exact absurd (show (1 : Int32) = 0 from c) (by decide)
          · have hin := m_isIn h (Int32.toInt64 1) 0 4
            rw [show (if (0 : Int64) ≤ Int32.toInt64 1 ∧ Int32.toInt64 1 ≤ 4 then (1 : Int32) else 0) = 1 by decide] at hin
            conv => whnf
            refine Exists.intro (_, _) (And.intro (ia_callE (hin)) ?_)
            conv => whnf
            refine And.intro (fun c => ?_) (fun c => ?_)
            · exact absurd (show (1 : Int32) = 0 from c) (by decide)
            · skip
              conv => whnf
              refine And.intro (fun c0 => ?_) (fun c0 => ?_)
              · exact absurd (show (1 : Int32) = Int32.ofInt 0 from c0) (by decide)
              · skip
                conv => whnf
                refine And.intro (fun c1 => ?_) (fun c1 => ?_)
                · conv => whnf
                  refine Exists.intro _ (And.intro (And.intro rfl (by omega)) ?_)
                  conv => whnf
                  exact ⟨congrArg (fun v => some (Value.int v)) s1, rfl⟩
                · exact absurd rfl c1
      · refine P_of (v := .int (nI (B s))) ?_ ?_
        · refine ia_V_in ia_k_X7_statement [some (.ref 0), some (.int (nI s)), some (.int 2)] rfl rfl (Nat.le_of_ble_eq_true rfl) rfl ?_
          refine ia_walk (fun _ => false) 50 (fun X hX => ?_)
          conv => whnf
          refine Exists.intro (_, _) (And.intro (ia_callE (v_isSt1 en (by omega) hs)) ?_)
          conv => whnf
          refine And.intro (fun c => ?_) (fun c => ?_)
          · exact absurd (show (1 : Int32) = 0 from c) (by decide)
          · skip
            conv => whnf
            refine And.intro (fun c0 => ?_) (fun c0 => ?_)
            · exact absurd (show (2 : Int32) = Int32.ofInt 0 from c0) (by decide)
            · skip
              conv => whnf
              refine And.intro (fun c1 => ?_) (fun c1 => ?_)
              · exact absurd (show (2 : Int32) = Int32.ofInt 1 from c1) (by decide)
              · skip
                conv => whnf
                refine And.intro (fun c2 => ?_) (fun c2 => ?_)
                · conv => whnf
                  refine Exists.intro _ (And.intro (And.intro rfl (by omega)) ?_)
                  conv => whnf
                  exact ⟨congrArg (fun v => some (Value.int v)) t2, rfl⟩
                · exact absurd rfl c2
        · refine ia_V_in ia_k_X8_statement [some (.ref 52), some (.int (nI s)), some (.int 2)] rfl rfl (Nat.le_of_ble_eq_true rfl) rfl ?_
          refine ia_walk (fun _ => false) 50 (fun X hX => ?_)
          conv => whnf
          refine Exists.intro (_, _) (And.intro (ia_callE (m_isSt1 en2 (by omega) hs)) ?_)
          conv => whnf
          refine And.intro (fun c => ?_) (fun c => ?_)
          · exact absurd (show (1 : Int32) = 0 from c) (by decide)
          · have hin := m_isIn h (Int32.toInt64 2) 0 4
            rw [show (if (0 : Int64) ≤ Int32.toInt64 2 ∧ Int32.toInt64 2 ≤ 4 then (1 : Int32) else 0) = 1 by decide] at hin
            conv => whnf
            refine Exists.intro (_, _) (And.intro (ia_callE (hin)) ?_)
            conv => whnf
            refine And.intro (fun c => ?_) (fun c => ?_)
            · exact absurd (show (1 : Int32) = 0 from c) (by decide)
            · skip
              conv => whnf
              refine And.intro (fun c0 => ?_) (fun c0 => ?_)
              · exact absurd (show (2 : Int32) = Int32.ofInt 0 from c0) (by decide)
              · skip
                conv => whnf
                refine And.intro (fun c1 => ?_) (fun c1 => ?_)
                · exact absurd (show (2 : Int32) = Int32.ofInt 1 from c1) (by decide)
                · skip
                  conv => whnf
                  refine And.intro (fun c2 => ?_) (fun c2 => ?_)
                  · conv => whnf
                    refine Exists.intro _ (And.intro (And.intro rfl (by omega)) ?_)
                    conv => whnf
                    exact ⟨congrArg (fun v => some (Value.int v)) s3, rfl⟩
                  · exact absurd rfl c2
      · refine P_two (v := .int (if 0 < rlM sd A B s then 1 else 0)) ?_ (fun K hf => ?_)
        · refine ia_V_in ia_k_X7_statement [some (.ref 0), some (.int (nI s)), some (.int 3)] rfl rfl (Nat.le_of_ble_eq_true rfl) rfl ?_
          refine ia_walk (fun _ => false) 50 (fun X hX => ?_)
          conv => whnf
          refine Exists.intro (_, _) (And.intro (ia_callE (v_isSt1 en (by omega) hs)) ?_)
          conv => whnf
          refine And.intro (fun c => ?_) (fun c => ?_)
          · exact absurd (show (1 : Int32) = 0 from c) (by decide)
          · skip
            conv => whnf
            refine And.intro (fun c0 => ?_) (fun c0 => ?_)
            · exact absurd (show (3 : Int32) = Int32.ofInt 0 from c0) (by decide)
            · skip
              conv => whnf
              refine And.intro (fun c1 => ?_) (fun c1 => ?_)
              · exact absurd (show (3 : Int32) = Int32.ofInt 1 from c1) (by decide)
              · skip
                conv => whnf
                refine And.intro (fun c2 => ?_) (fun c2 => ?_)
                · exact absurd (show (3 : Int32) = Int32.ofInt 2 from c2) (by decide)
                · skip
                  conv => whnf
                  refine And.intro (fun c3 => ?_) (fun c3 => ?_)
                  · conv => whnf
                    obtain ⟨r1, h1, ev1, z1, z2⟩ := v_hangs hw hs
                    subst z1
                    refine Exists.intro (_, _) (And.intro ev1 ?_)
                    by_cases hq : 0 < rlM sd A B s
                    · rw [if_pos hq]
                      conv => whnf
                      refine And.intro (fun c9 => ?_) (fun c9 => ?_)
                      · exact absurd (show (1 : Int32) = 0 from c9) (by decide)
                      · conv => whnf
                        exact ⟨rfl, z2⟩
                    · rw [if_neg hq]
                      conv => whnf
                      refine And.intro (fun c9 => ?_) (fun c9 => ?_)
                      · conv => whnf
                        exact ⟨rfl, z2⟩
                      · exact absurd rfl c9
                  · exact absurd rfl c3
        · refine ia_V_in ia_k_X8_statement [some (.ref 52), some (.int (nI s)), some (.int 3)] rfl rfl (Nat.le_of_ble_eq_true rfl) rfl ?_
          refine ia_walk (fun _ => false) 50 (fun X hX => ?_)
          conv => whnf
          refine Exists.intro (_, _) (And.intro (ia_callE (m_isSt1 ((wOk_fr hw hf).1.2.2.1) (by omega) hs)) ?_)
          conv => whnf
          refine And.intro (fun c => ?_) (fun c => ?_)
          · exact absurd (show (1 : Int32) = 0 from c) (by decide)
          · have hin := m_isIn K (Int32.toInt64 3) 0 4
            rw [show (if (0 : Int64) ≤ Int32.toInt64 3 ∧ Int32.toInt64 3 ≤ 4 then (1 : Int32) else 0) = 1 by decide] at hin
            conv => whnf
            refine Exists.intro (_, _) (And.intro (ia_callE (hin)) ?_)
            conv => whnf
            refine And.intro (fun c => ?_) (fun c => ?_)
            · exact absurd (show (1 : Int32) = 0 from c) (by decide)
            · skip
              conv => whnf
              refine And.intro (fun c0 => ?_) (fun c0 => ?_)
              · exact absurd (show (3 : Int32) = Int32.ofInt 0 from c0) (by decide)
              · skip
                conv => whnf
                refine And.intro (fun c1 => ?_) (fun c1 => ?_)
                · exact absurd (show (3 : Int32) = Int32.ofInt 1 from c1) (by decide)
                · skip
                  conv => whnf
                  refine And.intro (fun c2 => ?_) (fun c2 => ?_)
                  · exact absurd (show (3 : Int32) = Int32.ofInt 2 from c2) (by decide)
                  · skip
                    conv => whnf
                    refine And.intro (fun c3 => ?_) (fun c3 => ?_)
                    · conv => whnf
                      obtain ⟨r1, h1, ev1, z1, z2⟩ := m_rely K n G sd A B (wOk_fr hw hf).1 (cnOk_fr hc hf) s hs
                      subst z1
                      refine Exists.intro (_, _) (And.intro ev1 ?_)
                      conv => whnf
                      refine And.intro (fun c9 => ?_) (fun c9 => ?_)
                      · conv => whnf
                        exact ⟨by rw [if_pos (show 0 < rlM sd A B s from c9)], z2⟩
                      · conv => whnf
                        exact ⟨by rw [if_neg (show ¬ 0 < rlM sd A B s from c9)], z2⟩
                    · exact absurd rfl c3
      · refine P_two (v := .int (rlM sd A B s)) ?_ (fun K hf => ?_)
        · refine ia_V_in ia_k_X7_statement [some (.ref 0), some (.int (nI s)), some (.int 4)] rfl rfl (Nat.le_of_ble_eq_true rfl) rfl ?_
          refine ia_walk (fun _ => false) 50 (fun X hX => ?_)
          conv => whnf
          refine Exists.intro (_, _) (And.intro (ia_callE (v_isSt1 en (by omega) hs)) ?_)
          conv => whnf
          refine And.intro (fun c => ?_) (fun c => ?_)
          · exact absurd (show (1 : Int32) = 0 from c) (by decide)
          · skip
            conv => whnf
            refine And.intro (fun c0 => ?_) (fun c0 => ?_)
            · exact absurd (show (4 : Int32) = Int32.ofInt 0 from c0) (by decide)
            · skip
              conv => whnf
              refine And.intro (fun c1 => ?_) (fun c1 => ?_)
              · exact absurd (show (4 : Int32) = Int32.ofInt 1 from c1) (by decide)
              · skip
                conv => whnf
                refine And.intro (fun c2 => ?_) (fun c2 => ?_)
                · exact absurd (show (4 : Int32) = Int32.ofInt 2 from c2) (by decide)
                · skip
                  conv => whnf
                  refine And.intro (fun c3 => ?_) (fun c3 => ?_)
                  · exact absurd (show (4 : Int32) = Int32.ofInt 3 from c3) (by decide)
                  · skip
                    conv => whnf
                    refine And.intro (fun c4 => ?_) (fun c4 => ?_)
                    · conv => whnf
                      obtain ⟨r1, h1, ev1, z1, z2⟩ := v_relyOn hw hs
                      subst z1
                      refine Exists.intro (_, _) (And.intro ev1 ?_)
                      conv => whnf
                      exact ⟨rfl, z2⟩
                    · exact absurd rfl c4
        · refine ia_V_in ia_k_X8_statement [some (.ref 52), some (.int (nI s)), some (.int 4)] rfl rfl (Nat.le_of_ble_eq_true rfl) rfl ?_
          refine ia_walk (fun _ => false) 50 (fun X hX => ?_)
          conv => whnf
          refine Exists.intro (_, _) (And.intro (ia_callE (m_isSt1 ((wOk_fr hw hf).1.2.2.1) (by omega) hs)) ?_)
          conv => whnf
          refine And.intro (fun c => ?_) (fun c => ?_)
          · exact absurd (show (1 : Int32) = 0 from c) (by decide)
          · have hin := m_isIn K (Int32.toInt64 4) 0 4
            rw [show (if (0 : Int64) ≤ Int32.toInt64 4 ∧ Int32.toInt64 4 ≤ 4 then (1 : Int32) else 0) = 1 by decide] at hin
            conv => whnf
            refine Exists.intro (_, _) (And.intro (ia_callE (hin)) ?_)
            conv => whnf
            refine And.intro (fun c => ?_) (fun c => ?_)
            · exact absurd (show (1 : Int32) = 0 from c) (by decide)
            · skip
              conv => whnf
              refine And.intro (fun c0 => ?_) (fun c0 => ?_)
              · exact absurd (show (4 : Int32) = Int32.ofInt 0 from c0) (by decide)
              · skip
                conv => whnf
                refine And.intro (fun c1 => ?_) (fun c1 => ?_)
                · exact absurd (show (4 : Int32) = Int32.ofInt 1 from c1) (by decide)
                · skip
                  conv => whnf
                  refine And.intro (fun c2 => ?_) (fun c2 => ?_)
                  · exact absurd (show (4 : Int32) = Int32.ofInt 2 from c2) (by decide)
                  · skip
                    conv => whnf
                    refine And.intro (fun c3 => ?_) (fun c3 => ?_)
                    · exact absurd (show (4 : Int32) = Int32.ofInt 3 from c3) (by decide)
                    · skip
                      conv => whnf
                      obtain ⟨r1, h1, ev1, z1, z2⟩ := m_rely K n G sd A B (wOk_fr hw hf).1 (cnOk_fr hc hf) s hs
                      subst z1
                      refine Exists.intro (_, _) (And.intro ev1 ?_)
                      conv => whnf
                      exact ⟨rfl, z2⟩
