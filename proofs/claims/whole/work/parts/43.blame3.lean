/-! blame: both sides -/
theorem in64 (w : Int32) (lo hi : Int64) : (lo ≤ w.toInt64 ∧ w.toInt64 ≤ hi) ↔ (lo.toInt ≤ w.toInt ∧ w.toInt ≤ hi.toInt) := by
  rw [Int64.le_iff_toInt_le, Int64.le_iff_toInt_le, Int32.toInt_toInt64]
theorem is01 (w : Int32) : (0 ≤ w.toInt ∧ w.toInt ≤ 1) ↔ (w = 0 ∨ w = 1) := by
  refine ⟨fun ⟨a, b⟩ => ?_, fun h => ?_⟩
  · by_cases e : w.toInt = 0
    · exact Or.inl (Int32.toInt_inj.mp (by rw [e]; decide))
    · exact Or.inr (Int32.toInt_inj.mp (by rw [show w.toInt = 1 by omega]; decide))
  · rcases h with rfl | rfl <;> decide
def moJ : Option Nat → Int32
  | none => -2
  | some j => nI j
theorem l_mbl3 (h : ia_H) (n : Nat) (hn : n ≤ 120) (en : h.1 52 10 = nI n) (w : Int32) {Z : Option Value → ia_H → Prop} (hZ : Z (some (.int (blA w (h.1 71) (moR (h.1 71) n)))) h) : ∀ k s : Nat, s + k = n → R_ ia_k_X8_blame Z (120, [some (.ref 52), some (.int w), some (.int (moJ (moR (h.1 71) s))), some (.int (moC (h.1 71) (moR (h.1 71) s))), some (.int (nI s))], [], h) := by
  intro k
  induction k with
  | zero =>
    intro s hs
    rw [show s = n by omega]
    refine ia_walk (fun _ => false) 60 (fun X hX => ?_)
    conv => whnf
    refine And.intro (fun c => ?_) (fun c => ?_)
    · exact absurd (show nI n < h.1 52 10 from c) (by rw [en]; exact nI_nlt (by omega) (by omega))
    · cases hm : moR (h.1 71) n with
      | none =>
        rw [hm] at hZ
        conv => whnf
        refine And.intro (fun c1 => ?_) (fun c1 => ?_)
        · conv => whnf
          exact hZ
        · conv => whnf
          refine And.intro (fun c2 => ?_) (fun c2 => ?_)
          · conv => whnf
            exact hZ
          · exact absurd rfl c2
      | some j =>
        have hj := moR_lt _ _ _ hm
        rw [hm] at hZ
        have hZ : Z (some (.int (if w = 0 then nI j else h.1 71 j))) h := hZ
        conv => whnf
        refine And.intro (fun c1 => ?_) (fun c1 => ?_)
        · rw [if_pos (show w = 0 from c1)] at hZ
          conv => whnf
          exact hZ
        · rw [if_neg (show ¬ w = 0 from c1)] at hZ
          conv => whnf
          refine And.intro (fun c2 => ?_) (fun c2 => ?_)
          · exact absurd (show nI j = -2 from c2) (fun q => absurd (show nI j < 0 by rw [q]; decide) (nI_pos (by omega)))
          · conv => whnf
            exact hZ
  | succ k ih =>
    intro s hs
    have ih := ih (s + 1) (by omega)
    rw [moR] at ih
    refine ia_walk (fun pc => Nat.beq pc 120) 60 (fun X hX => ?_)
    conv => whnf
    refine And.intro (fun c => ?_) (fun c => ?_)
    · conv => whnf
      refine Exists.intro _ (And.intro (And.intro rfl (by omega)) ?_)
      conv => whnf
      refine And.intro (fun c3 => ?_) (fun c3 => ?_)
      · conv => whnf
        refine Exists.intro _ (And.intro (And.intro rfl (by omega)) ?_)
        conv => whnf
        rw [nI_1]
        rw [if_pos (show moC (h.1 71) (moR (h.1 71) s) < h.1 71 s from c3)] at ih
        exact hX _ ih
      · conv => whnf
        rw [nI_1]
        rw [if_neg (show ¬ moC (h.1 71) (moR (h.1 71) s) < h.1 71 s from c3)] at ih
        exact hX _ ih
    · exact absurd (show nI s < h.1 52 10 by rw [en]; exact nI_lt (by omega) (by omega)) c
theorem m_blame1 (h : ia_H) (n G : Nat) (sd : Nat → Bool) (A B : Nat → Nat) (hw : wOk h n G sd A B) (hc : cnOk h G sd A B) (w : Int32) (h01 : w = 0 ∨ w = 1) : V_ 153 [.ref 52, .int w] h (fun r h' => frS h h' ∧ ∃ T, fAg n T (blF sd A B (h.1 26) (fun _ => 0) n) ∧ r = some (.int (blA w T (moR T n)))) := by
  have hn := hw.1.1
  have e01 : (if (0 : Int64) ≤ w.toInt64 ∧ w.toInt64 ≤ 1 then (1 : Int32) else 0) = 1 := if_pos ((in64 w 0 1).mpr ((is01 w).mpr h01))
  have hin := m_isIn h w.toInt64 0 1
  rw [e01] at hin
  have l3 : ∀ (H : ia_H) (a2 a3 a4 : Option Value), frS h H → H.1 71 = blF sd A B (h.1 62) (flF (h.1 71) n 0) n → R_ ia_k_X8_blame (fun r h' => frS h h' ∧ ∃ T, fAg n T (blF sd A B (h.1 26) (fun _ => 0) n) ∧ r = some (.int (blA w T (moR T n)))) (112, [some (.ref 52), some (.int w), a2, a3, a4], [], H) := by
    intro H a2 a3 a4 hf hT
    refine ia_walk (fun pc => Nat.beq pc 120) 60 (fun X hX => ?_)
    conv => whnf
    refine hX _ (l_mbl3 H n hn (wOk_fr hw hf).1.2.2.1 w ⟨hf, H.1 71, ?_, rfl⟩ n 0 (by omega))
    rw [hT, blF_kd (kd2 := h.1 26) (fun j hj => ((hw.2.2.2.1 j hj).2.2).symm)]
    exact fAg_blF (fun s hs => if_pos hs) n
  have l0 := l_mbl0 h n hn hw.1.2.2.1 w (Z := fun r h' => frS h h' ∧ ∃ T, fAg n T (blF sd A B (h.1 26) (fun _ => 0) n) ∧ r = some (.int (blA w T (moR T n)))) (fun a2 => by
    refine ia_walk (fun pc => Nat.beq pc 37) 60 (fun X hX => ?_)
    conv => whnf
    exact hX _ (l_mbl1 h n G sd A B hw.1 hc (fun H hf => ⟨(wOk_fr hw hf).1, cnOk_fr hc hf⟩) (flF (h.1 71) n 0) w l3 n 0 none none (hsI h 71 (flF (h.1 71) n 0)) (by omega) (frS_I (y := 71) (by omega) _) rfl)) n 0 (by omega)
  rw [flF_0, hsI_eta] at l0
  refine ia_V_in ia_k_X8_blame [some (.ref 52), some (.int w), none, none, none] rfl rfl (Nat.le_of_ble_eq_true rfl) rfl ?_
  refine ia_walk (fun pc => Nat.beq pc 14) 60 (fun X hX => ?_)
  conv => whnf
  refine Exists.intro (_, _) (And.intro (ia_callE (hin)) ?_)
  conv => whnf
  refine And.intro (fun c => ?_) (fun c => ?_)
  · exact absurd (show (1 : Int32) = 0 from c) (by decide)
  · conv => whnf
    exact hX _ (l0)
theorem q_blame {h : ia_H} {n G : Nat} {sd : Nat → Bool} {A B : Nat → Nat} (hw : wOk h n G sd A B) (hc : cnOk h G sd A B) (w : Int32) : P_ 83 [.ref 0, .int w] 153 [.ref 52, .int w] h := by
  by_cases h01 : w = 0 ∨ w = 1
  · obtain ⟨r, h1, ev, z1, T, z2, z3⟩ := v_blame1 h n G sd A B hw w h01
    obtain ⟨r', h2, ev', y1, T', y2, y3⟩ := m_blame1 h1 n G sd A B (wOk_fr hw z1) (cnOk_fr hc z1) w h01
    refine ⟨r, h1, ev, z1, r', h2, ev', ?_, frS_tr z1 y1⟩
    rw [z1.1 26 (by omega)] at y2
    have ag : fAg n T' T := fun s hs => (y2 s hs).trans (z2 s hs).symm
    obtain ⟨m1, m2⟩ := moR_congr ag
    have hlt := moR_lt T n
    rw [y3, z3, m1]
    congr 2
    cases hm : moR T n with
    | none => rfl
    | some j =>
      show (if w = 0 then nI j else T' j) = (if w = 0 then nI j else T j)
      rw [ag j (hlt j hm)]
  · refine P_of (v := .int (-1)) ?_ ?_
    · refine ia_V_in ia_k_X7_blame [some (.ref 0), some (.int w), none] rfl rfl (Nat.le_of_ble_eq_true rfl) rfl ?_
      refine ia_walk (fun pc => Nat.beq pc 11) 60 (fun X hX => ?_)
      conv => whnf
      refine And.intro (fun c => ?_) (fun c => ?_)
      · exact absurd (Or.inl c) h01
      · conv => whnf
        refine And.intro (fun c2 => ?_) (fun c2 => ?_)
        · exact absurd (Or.inr c2) h01
        · conv => whnf
          exact ⟨rfl, rfl⟩
    · have e01 : (if (0 : Int64) ≤ w.toInt64 ∧ w.toInt64 ≤ 1 then (1 : Int32) else 0) = 0 := if_neg (fun q => h01 ((is01 w).mp ((in64 w 0 1).mp q)))
      have hin := m_isIn h w.toInt64 0 1
      rw [e01] at hin
      refine ia_V_in ia_k_X8_blame [some (.ref 52), some (.int w), none, none, none] rfl rfl (Nat.le_of_ble_eq_true rfl) rfl ?_
      refine ia_walk (fun pc => Nat.beq pc 14) 60 (fun X hX => ?_)
      conv => whnf
      refine Exists.intro (_, _) (And.intro (ia_callE (hin)) ?_)
      conv => whnf
      refine And.intro (fun c => ?_) (fun c => ?_)
      · conv => whnf
        exact ⟨rfl, rfl⟩
      · exact absurd rfl c
