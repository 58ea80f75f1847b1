/-! group and twos, class and reference side by side -/
def gpOk (h : ia_H) (G n : Nat) : Prop := jgE G n (h.1 27, h.2 28, h.1 26) (h.1 60, h.2 61, h.1 62)
theorem gp_eq {h : ia_H} {G n : Nat} (hp : gpOk h G n) {g : Nat} (hg : g < G) : h.1 60 g = h.1 27 g ∧ h.2 61 g = h.2 28 g := by
  obtain ⟨l, -, -, -, h4, -⟩ := hp
  exact h4 g hg
theorem gp_ne {h : ia_H} {G n : Nat} (hG : G ≤ 41) (hp : gpOk h G n) {a j : Nat} (ha : a < j) (hj : G ≤ j) (hj2 : j < 41) : ¬ h.1 27 j = h.1 27 a := by
  obtain ⟨l, h1, h2, h3, -, -⟩ := hp
  have e1 := (h1.1 j hj2).2.1
  have e2 := (h1.1 a (by omega)).2.1
  have e3 := h2 j hj hj2
  have e4 := (h1.1 a (by omega)).1
  intro q
  have e1 : h.1 27 j = nI (l j) := e1
  have e2 : h.1 27 a = nI (l a) := e2
  rw [e1, e2] at q
  have := nI_inj (by omega) (by omega) q
  omega
theorem gp_size {h : ia_H} {G n : Nat} (hG : G ≤ 41) (hp : gpOk h G n) {a : Nat} (ha : a < G) : ct (fun j => decide (h.1 27 j = h.1 27 a)) 41 = ct (fun j => decide (h.1 60 j = h.1 60 a)) G := by
  rw [ct_stop hG (fun k h1 h2 => decide_eq_false (gp_ne hG hp (by omega) h1 h2))]
  exact ct_congr (fun k hk => by rw [(gp_eq hp hk).1, (gp_eq hp ha).1])
theorem q_group {h : ia_H} {G n : Nat} (hG : G ≤ 41) (e1 : h.1 4 6 = nI G) (e2 : h.1 52 4 = nI G) (hp : gpOk h G n) (x w : Int32) : Q_ 76 [.ref 0, .int x, .int w] 142 [.ref 52, .int x, .int w] h := by
  rcases bad_or x (show G < 2 ^ 31 by omega) with hb | ⟨j, hj, rfl⟩
  · refine ⟨.int (-1), ?_, ?_⟩
    · refine ia_V_in ia_k_X7_group [some (.ref 0), some (.int x), some (.int w)] rfl rfl (Nat.le_of_ble_eq_true rfl) rfl ?_
      refine ia_walk (fun _ => false) 50 (fun X hX => ?_)
      conv => whnf
      refine Exists.intro (_, _) (And.intro (ia_callE (v_isGa0 e1 hb)) ?_)
      conv => whnf
      refine And.intro (fun c => ?_) (fun c => ?_)
      · conv => whnf
        exact ⟨rfl, rfl⟩
      · exact absurd rfl c
    · refine ia_V_in ia_k_X8_group [some (.ref 52), some (.int x), some (.int w)] rfl rfl (Nat.le_of_ble_eq_true rfl) rfl ?_
      refine ia_walk (fun _ => false) 50 (fun X hX => ?_)
      conv => whnf
      refine Exists.intro (_, _) (And.intro (ia_callE (m_isGa0 e2 hb)) ?_)
      conv => whnf
      refine And.intro (fun c => ?_) (fun c => ?_)
      · conv => whnf
        exact ⟨rfl, rfl⟩
      · exact absurd rfl c
  · by_cases h01 : w = 0 ∨ w = 1
    · have e01 : (if (0 : Int64) ≤ w.toInt64 ∧ w.toInt64 ≤ 1 then (1 : Int32) else 0) = 1 := if_pos ((in64 w 0 1).mpr ((is01 w).mpr h01))
      have hin := m_isIn h w.toInt64 0 1
      rw [e01] at hin
      rcases h01 with rfl | rfl
      · refine ⟨.int (h.1 27 j), ?_, ?_⟩
        · refine ia_V_in ia_k_X7_group [some (.ref 0), some (.int (nI j)), some (.int 0)] rfl rfl (Nat.le_of_ble_eq_true rfl) rfl ?_
          refine ia_walk (fun _ => false) 50 (fun X hX => ?_)
          conv => whnf
          refine Exists.intro (_, _) (And.intro (ia_callE (v_isGa1 e1 (by omega) hj)) ?_)
          conv => whnf
          refine And.intro (fun c => ?_) (fun c => ?_)
          · exact absurd (show (1 : Int32) = 0 from c) (by decide)
          · conv => whnf
            refine And.intro (fun c2 => ?_) (fun c2 => ?_)
            · conv => whnf
              refine Exists.intro _ (And.intro (And.intro rfl (by omega)) ?_)
              conv => whnf
              exact ⟨rfl, rfl⟩
            · exact absurd rfl c2
        · rw [← (gp_eq hp hj).1]
          refine ia_V_in ia_k_X8_group [some (.ref 52), some (.int (nI j)), some (.int 0)] rfl rfl (Nat.le_of_ble_eq_true rfl) rfl ?_
          refine ia_walk (fun _ => false) 50 (fun X hX => ?_)
          conv => whnf
          refine Exists.intro (_, _) (And.intro (ia_callE (m_isGa1 e2 (by omega) hj)) ?_)
          conv => whnf
          refine And.intro (fun c => ?_) (fun c => ?_)
          · exact absurd (show (1 : Int32) = 0 from c) (by decide)
          · conv => whnf
            refine Exists.intro (_, _) (And.intro (ia_callE (hin)) ?_)
            conv => whnf
            refine And.intro (fun c => ?_) (fun c => ?_)
            · exact absurd (show (1 : Int32) = 0 from c) (by decide)
            · conv => whnf
              refine And.intro (fun c2 => ?_) (fun c2 => ?_)
              · conv => whnf
                refine Exists.intro _ (And.intro (And.intro rfl (by omega)) ?_)
                conv => whnf
                exact ⟨rfl, rfl⟩
              · exact absurd rfl c2
      · refine ⟨.int (nI (ct (fun i => decide (h.1 27 i = h.1 27 j)) 41)), ?_, ?_⟩
        · refine ia_V_in ia_k_X7_group [some (.ref 0), some (.int (nI j)), some (.int 1)] rfl rfl (Nat.le_of_ble_eq_true rfl) rfl ?_
          refine ia_walk (fun _ => false) 50 (fun X hX => ?_)
          conv => whnf
          refine Exists.intro (_, _) (And.intro (ia_callE (v_isGa1 e1 (by omega) hj)) ?_)
          conv => whnf
          refine And.intro (fun c => ?_) (fun c => ?_)
          · exact absurd (show (1 : Int32) = 0 from c) (by decide)
          · conv => whnf
            refine And.intro (fun c2 => ?_) (fun c2 => ?_)
            · exact absurd (show (1 : Int32) = Int32.ofInt 0 from c2) (by decide)
            · conv => whnf
              refine And.intro (fun c3 => ?_) (fun c3 => ?_)
              · conv => whnf
                refine Exists.intro _ (And.intro (And.intro rfl (by omega)) ?_)
                conv => whnf
                refine Exists.intro (_, _) (And.intro (ia_callE (v_sizeOf h (h.1 27 j))) ?_)
                conv => whnf
                exact ⟨rfl, rfl⟩
              · exact absurd rfl c3
        · rw [gp_size hG hp hj]
          refine ia_V_in ia_k_X8_group [some (.ref 52), some (.int (nI j)), some (.int 1)] rfl rfl (Nat.le_of_ble_eq_true rfl) rfl ?_
          refine ia_walk (fun _ => false) 50 (fun X hX => ?_)
          conv => whnf
          refine Exists.intro (_, _) (And.intro (ia_callE (m_isGa1 e2 (by omega) hj)) ?_)
          conv => whnf
          refine And.intro (fun c => ?_) (fun c => ?_)
          · exact absurd (show (1 : Int32) = 0 from c) (by decide)
          · conv => whnf
            refine Exists.intro (_, _) (And.intro (ia_callE (hin)) ?_)
            conv => whnf
            refine And.intro (fun c => ?_) (fun c => ?_)
            · exact absurd (show (1 : Int32) = 0 from c) (by decide)
            · conv => whnf
              refine And.intro (fun c2 => ?_) (fun c2 => ?_)
              · exact absurd (show (1 : Int32) = 0 from c2) (by decide)
              · conv => whnf
                refine Exists.intro (_, _) (And.intro (ia_callE (m_sizeOf h j G (by omega) hG e2)) ?_)
                conv => whnf
                exact ⟨rfl, rfl⟩
    · have e01 : (if (0 : Int64) ≤ w.toInt64 ∧ w.toInt64 ≤ 1 then (1 : Int32) else 0) = 0 := if_neg (fun q => h01 ((is01 w).mp ((in64 w 0 1).mp q)))
      have hin := m_isIn h w.toInt64 0 1
      rw [e01] at hin
      refine ⟨.int (-1), ?_, ?_⟩
      · refine ia_V_in ia_k_X7_group [some (.ref 0), some (.int (nI j)), some (.int w)] rfl rfl (Nat.le_of_ble_eq_true rfl) rfl ?_
        refine ia_walk (fun _ => false) 50 (fun X hX => ?_)
        conv => whnf
        refine Exists.intro (_, _) (And.intro (ia_callE (v_isGa1 e1 (by omega) hj)) ?_)
        conv => whnf
        refine And.intro (fun c => ?_) (fun c => ?_)
        · exact absurd (show (1 : Int32) = 0 from c) (by decide)
        · conv => whnf
          refine And.intro (fun c2 => ?_) (fun c2 => ?_)
          · exact absurd (Or.inl c2) h01
          · conv => whnf
            refine And.intro (fun c3 => ?_) (fun c3 => ?_)
            · exact absurd (Or.inr c3) h01
            · conv => whnf
              exact ⟨rfl, rfl⟩
      · refine ia_V_in ia_k_X8_group [some (.ref 52), some (.int (nI j)), some (.int w)] rfl rfl (Nat.le_of_ble_eq_true rfl) rfl ?_
        refine ia_walk (fun _ => false) 50 (fun X hX => ?_)
        conv => whnf
        refine Exists.intro (_, _) (And.intro (ia_callE (m_isGa1 e2 (by omega) hj)) ?_)
        conv => whnf
        refine And.intro (fun c => ?_) (fun c => ?_)
        · exact absurd (show (1 : Int32) = 0 from c) (by decide)
        · conv => whnf
          refine Exists.intro (_, _) (And.intro (ia_callE (hin)) ?_)
          conv => whnf
          refine And.intro (fun c => ?_) (fun c => ?_)
          · conv => whnf
            exact ⟨rfl, rfl⟩
          · exact absurd rfl c
theorem neg_pos64 {d : Int64} (h : 0 < d) : -d < 0 := by
  have h1 := Int64.lt_iff_toInt_lt.mp h
  rw [show (0 : Int64).toInt = 0 by decide] at h1
  have h2 := d.toInt_lt
  refine Int64.lt_iff_toInt_lt.mpr ?_
  rw [Int64.toInt_neg, show (0 : Int64).toInt = 0 by decide, Int.bmod_eq_of_le (by omega) (by omega)]
  omega
theorem abs_tw {d m : Int64} (hm : ¬ m < 0) : ((if 0 < d then d else -d) = m) ↔ (d = m ∨ d = -m) := by
  by_cases h : 0 < d
  · rw [if_pos h]
    refine ⟨Or.inl, fun q => ?_⟩
    rcases q with q | q
    · exact q
    · exfalso
      have := neg_pos64 h
      rw [q, Int64.neg_neg] at this
      exact hm this
  · rw [if_neg h]
    refine ⟨fun q => Or.inr (by rw [← q, Int64.neg_neg]), fun q => ?_⟩
    rcases q with q | q
    · have h1 : d = 0 := Int64.le_antisymm (Int64.not_lt.mp h) (by rw [q]; exact Int64.not_lt.mp hm)
      rw [← q, h1]
      rfl
    · rw [q, Int64.neg_neg]
theorem q_twos {h : ia_H} {G n : Nat} (hG : G ≤ 41) (e2 : h.1 52 4 = nI G) (hp : gpOk h G n) (m : Int64) : Q_ 80 [.ref 0, .long m] 148 [.ref 52, .long m] h := by
  refine ⟨_, c_twos h m, ?_⟩
  have e : (if m < 0 then (-1 : Int32) else nI (ct2 (gr_tw (h.1 27) (h.2 28) m) 41)) = (if m < 0 then -1 else nI (ct2 (mr_tw (h.1 60) (h.2 61) m) G)) := by
    by_cases hm : m < 0
    · rw [if_pos hm, if_pos hm]
    · rw [if_neg hm, if_neg hm]
      congr 1
      rw [ct2_stop hG (fun g j h1 h2 h3 => by unfold gr_tw; rw [decide_eq_false (gp_ne hG hp h3 h1 h2)]; rfl)]
      refine ct2_congr (fun g j hg hj => ?_)
      unfold gr_tw mr_tw
      rw [(gp_eq hp hg).1, (gp_eq hp hg).2, (gp_eq hp (show j < G by omega)).1, (gp_eq hp (show j < G by omega)).2]
      congr 1
      rw [← Bool.decide_or]
      exact decide_eq_decide.mpr (abs_tw hm)
  rw [e]
  exact m_twos h G m hG e2
