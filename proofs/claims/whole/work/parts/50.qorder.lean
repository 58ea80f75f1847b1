/-! order and span: the answers -/
theorem gp_in {h : ia_H} {G n : Nat} (hG : G ≤ 41) (hp : gpOk h G n) {a g : Nat} (ha : a < G) (hg : g < 41) : (h.1 27 g = h.1 27 a) ↔ (g < G ∧ inF h a g = true) := by
  refine ⟨fun q => ?_, fun ⟨q1, q2⟩ => ?_⟩
  · have hgG : g < G := by
      rcases Nat.lt_or_ge g G with z | z
      · exact z
      · exact absurd q (gp_ne hG hp (by omega) z hg)
    exact ⟨hgG, decide_eq_true (by rw [(gp_eq hp hgG).1, (gp_eq hp ha).1]; exact q)⟩
  · have := of_decide_eq_true q2
    rw [(gp_eq hp q1).1, (gp_eq hp ha).1] at this
    exact this
theorem ah_ct {h : ia_H} {G n : Nat} (hG : G ≤ 41) (hp : gpOk h G n) {a g : Nat} (ha : a < G) (hg : g < G) (hin : inF h a g = true) : ct (gr_ah (h.1 27) (h.2 28) g) 41 = ct (fun j => inF h a j && ahd (h.2 61) j g) G := by
  have e := (gp_in hG hp ha (show g < 41 by omega)).mpr ⟨hg, hin⟩
  rw [ct_stop hG (fun j h1 h2 => by unfold gr_ah; rw [decide_eq_false (gp_ne hG hp (by omega) h1 h2)]; rfl)]
  refine ct_congr (fun j hj => ?_)
  unfold gr_ah ahd
  show _ = (decide (h.1 60 j = h.1 60 a) && _)
  rw [(gp_eq hp hj).1, (gp_eq hp hj).2, (gp_eq hp hg).2, (gp_eq hp ha).1, e]
theorem l_order (h : ia_H) (a G k0 : Nat) (ha : a < G) (hG : G ≤ 41) (hk : k0 < 2 ^ 31) (e1 : h.1 4 6 = nI G) (t : Option Nat) (ht : ∀ g, g < G → ((h.1 27 g = h.1 27 a ∧ ct (gr_ah (h.1 27) (h.2 28) g) 41 = k0) ↔ t = some g)) (htG : ∀ g, t = some g → g < G) {Z : Option Value → ia_H → Prop} (hZ1 : ∀ g, t = some g → Z (some (.int (nI g))) h) (hZ0 : t = none → Z (some (.int (-2))) h) (a1 : Int32) :
    ∀ k g : Nat, g + k = G → (∀ j, j < g → ¬ t = some j) → R_ ia_k_X7_order Z (27, [some (.ref 0), some (.int a1), some (.int (nI k0)), some (.int (h.1 27 a)), some (.int (nI g))], [], h) := by
  intro k
  induction k with
  | zero =>
    intro g hg hno
    rw [show g = G by omega] at hno ⊢
    have htn : t = none := by
      cases e : t with
      | none => rfl
      | some j => exact absurd e (hno j (htG j e))
    refine ia_walk (fun pc => Nat.beq pc 27) 60 (fun X hX => ?_)
    conv => whnf
    refine And.intro (fun c => ?_) (fun c => ?_)
    · exact absurd (show nI G < h.1 4 6 from c) (by rw [e1]; exact nI_nlt (by omega) (by omega))
    · conv => whnf
      exact hZ0 htn
  | succ k ih =>
    intro g hg hno
    have hl := ct_le (gr_ah (h.1 27) (h.2 28) g) 41
    have hg2 := ht g (by omega)
    refine ia_walk (fun pc => Nat.beq pc 27) 60 (fun X hX => ?_)
    conv => whnf
    refine And.intro (fun c => ?_) (fun c => ?_)
    · conv => whnf
      refine Exists.intro _ (And.intro (And.intro rfl (by omega)) ?_)
      conv => whnf
      refine And.intro (fun c2 => ?_) (fun c2 => ?_)
      · have c2 : h.1 27 g = h.1 27 a := c2
        conv => whnf
        refine Exists.intro (_, _) (And.intro (ia_callE (v_countAhead h g (by omega))) ?_)
        conv => whnf
        refine And.intro (fun c3 => ?_) (fun c3 => ?_)
        · have c3 := nI_inj (by omega) hk c3
          conv => whnf
          exact hZ1 g (hg2.mp ⟨c2, c3⟩)
        · conv => whnf
          rw [nI_1]
          refine hX _ (ih (g + 1) (by omega) (fun j hj e => ?_))
          by_cases z : j = g
          · rw [z] at e
            exact c3 (congrArg nI (hg2.mpr e).2)
          · exact hno j (by omega) e
      · conv => whnf
        rw [nI_1]
        refine hX _ (ih (g + 1) (by omega) (fun j hj e => ?_))
        by_cases z : j = g
        · rw [z] at e
          exact c2 (hg2.mpr e).1
        · exact hno j (by omega) e
    · exact absurd (show nI g < h.1 4 6 by rw [e1]; exact nI_lt (by omega) (by omega)) c
theorem v_order1 (h : ia_H) (G n : Nat) (hG : G ≤ 41) (e1 : h.1 4 6 = nI G) (hp : gpOk h G n) (a k0 m : Nat) (ha : a < G) (hk : k0 < 2 ^ 31) (q : Nat → Nat) (hq : orI (h.2 61) (inF h a) G m q) : V_ 77 [.ref 0, .int (nI a), .int (nI k0)] h (Z_ (.int (if k0 < m then nI (q k0) else -2)) h) := by
  have hcnt : ∀ g, g < G → (h.1 27 g = h.1 27 a ∧ ct (gr_ah (h.1 27) (h.2 28) g) 41 = k0) → k0 < m ∧ q k0 = g := by
    intro g hg ⟨z1, z2⟩
    have hin := ((gp_in hG hp ha (show g < 41 by omega)).mp z1).2
    rw [ah_ct hG hp ha hg hin] at z2
    obtain ⟨i, i1, i2⟩ := hq.2.2.1 g hg hin
    have := hq.2.2.2.2 i i1
    rw [i2, z2] at this
    subst this
    exact ⟨i1, i2⟩
  have hbk : k0 < m → q k0 < G ∧ (h.1 27 (q k0) = h.1 27 a ∧ ct (gr_ah (h.1 27) (h.2 28) (q k0)) 41 = k0) := by
    intro hk0
    obtain ⟨z1, z2⟩ := hq.2.1 k0 hk0
    exact ⟨z1, (gp_in hG hp ha (by omega)).mpr ⟨z1, z2⟩, by rw [ah_ct hG hp ha z1 z2]; exact hq.2.2.2.2 k0 hk0⟩
  have l := l_order h a G k0 ha hG hk e1 (if k0 < m then some (q k0) else none) (fun g hg => by
    refine ⟨fun z => ?_, fun z => ?_⟩
    · obtain ⟨y1, y2⟩ := hcnt g hg z
      rw [if_pos y1, y2]
    · by_cases y : k0 < m
      · rw [if_pos y] at z
        injection z with z
        rw [← z]
        exact (hbk y).2
      · rw [if_neg y] at z; cases z) (fun g z => by
      by_cases y : k0 < m
      · rw [if_pos y] at z
        injection z with z
        rw [← z]
        exact (hbk y).1
      · rw [if_neg y] at z; cases z) (Z := Z_ (.int (if k0 < m then nI (q k0) else -2)) h) (fun g z => by
      by_cases y : k0 < m
      · rw [if_pos y] at z
        injection z with z
        rw [if_pos y, z]
        exact ⟨rfl, rfl⟩
      · rw [if_neg y] at z; cases z) (fun z => by
      by_cases y : k0 < m
      · rw [if_pos y] at z; cases z
      · rw [if_neg y]; exact ⟨rfl, rfl⟩) (nI a) G 0 (by omega) (fun j hj => absurd hj (Nat.not_lt_zero j))
  refine ia_V_in ia_k_X7_order [some (.ref 0), some (.int (nI a)), some (.int (nI k0)), none, none] rfl rfl (Nat.le_of_ble_eq_true rfl) rfl ?_
  refine ia_walk (fun pc => Nat.beq pc 27) 60 (fun X hX => ?_)
  conv => whnf
  refine Exists.intro (_, _) (And.intro (ia_callE (v_isGa1 e1 (by omega) ha)) ?_)
  conv => whnf
  refine And.intro (fun c => ?_) (fun c => ?_)
  · exact absurd (show (1 : Int32) = 0 from c) (by decide)
  · conv => whnf
    refine And.intro (fun c2 => ?_) (fun c2 => ?_)
    · exact absurd c2 (nI_pos hk)
    · conv => whnf
      refine Exists.intro _ (And.intro (And.intro rfl (by omega)) ?_)
      conv => whnf
      exact hX _ (l)
theorem q_order {h : ia_H} {G n : Nat} (hG : G ≤ 41) (e1 : h.1 4 6 = nI G) (e2 : h.1 52 4 = nI G) (hp : gpOk h G n) (x y : Int32) : P_ 77 [.ref 0, .int x, .int y] 145 [.ref 52, .int x, .int y] h := by
  rcases bad_or x (show G < 2 ^ 31 by omega) with hb | ⟨a, ha, rfl⟩
  · refine P_of (v := .int (-1)) ?_ ?_
    · refine ia_V_in ia_k_X7_order [some (.ref 0), some (.int x), some (.int y), none, none] rfl rfl (Nat.le_of_ble_eq_true rfl) rfl ?_
      refine ia_walk (fun _ => false) 60 (fun X hX => ?_)
      conv => whnf
      refine Exists.intro (_, _) (And.intro (ia_callE (v_isGa0 e1 hb)) ?_)
      conv => whnf
      refine And.intro (fun c => ?_) (fun c => ?_)
      · conv => whnf
        exact ⟨rfl, rfl⟩
      · exact absurd rfl c
    · refine ia_V_in ia_k_X8_order [some (.ref 52), some (.int x), some (.int y)] rfl rfl (Nat.le_of_ble_eq_true rfl) rfl ?_
      refine ia_walk (fun _ => false) 60 (fun X hX => ?_)
      conv => whnf
      refine Exists.intro (_, _) (And.intro (ia_callE (m_isGa0 e2 hb)) ?_)
      conv => whnf
      refine And.intro (fun c => ?_) (fun c => ?_)
      · conv => whnf
        exact ⟨rfl, rfl⟩
      · exact absurd rfl c
  · by_cases hy : y < 0
    · refine P_of (v := .int (-1)) ?_ ?_
      · refine ia_V_in ia_k_X7_order [some (.ref 0), some (.int (nI a)), some (.int y), none, none] rfl rfl (Nat.le_of_ble_eq_true rfl) rfl ?_
        refine ia_walk (fun pc => Nat.beq pc 14) 60 (fun X hX => ?_)
        conv => whnf
        refine Exists.intro (_, _) (And.intro (ia_callE (v_isGa1 e1 (by omega) ha)) ?_)
        conv => whnf
        refine And.intro (fun c => ?_) (fun c => ?_)
        · exact absurd (show (1 : Int32) = 0 from c) (by decide)
        · conv => whnf
          refine And.intro (fun c2 => ?_) (fun c2 => ?_)
          · conv => whnf
            exact ⟨rfl, rfl⟩
          · exact absurd hy c2
      · refine ia_V_in ia_k_X8_order [some (.ref 52), some (.int (nI a)), some (.int y)] rfl rfl (Nat.le_of_ble_eq_true rfl) rfl ?_
        refine ia_walk (fun pc => Nat.beq pc 14) 60 (fun X hX => ?_)
        conv => whnf
        refine Exists.intro (_, _) (And.intro (ia_callE (m_isGa1 e2 (by omega) ha)) ?_)
        conv => whnf
        refine And.intro (fun c => ?_) (fun c => ?_)
        · exact absurd (show (1 : Int32) = 0 from c) (by decide)
        · conv => whnf
          refine And.intro (fun c2 => ?_) (fun c2 => ?_)
          · conv => whnf
            exact ⟨rfl, rfl⟩
          · exact absurd hy c2
    · obtain ⟨k0, hk, rfl⟩ := nI_of hy
      obtain ⟨r', h2, ev, m, q, R, z1, z2, z3, z4⟩ := m_laysOrder h a G ha hG e2
      subst z3 z4
      have hm := z1.1
      obtain ⟨r, h1, ev1, y1, y2⟩ := v_order1 h G n hG e1 hp a k0 m ha hk q z1
      subst y1 y2
      refine ⟨_, _, ev1, frS_rfl _, ?_⟩
      refine ia_V_in ia_k_X8_order [some (.ref 52), some (.int (nI a)), some (.int (nI k0))] rfl rfl (Nat.le_of_ble_eq_true rfl) rfl ?_
      refine ia_walk (fun _ => false) 60 (fun X hX => ?_)
      conv => whnf
      refine Exists.intro (_, _) (And.intro (ia_callE (m_isGa1 e2 (by omega) ha)) ?_)
      conv => whnf
      refine And.intro (fun c => ?_) (fun c => ?_)
      · exact absurd (show (1 : Int32) = 0 from c) (by decide)
      · conv => whnf
        refine And.intro (fun c2 => ?_) (fun c2 => ?_)
        · exact absurd c2 hy
        · conv => whnf
          refine Exists.intro (_, _) (And.intro ev ?_)
          by_cases hkm : k0 < m
          · rw [if_pos hkm]
            conv => whnf
            refine And.intro (fun c3 => ?_) (fun c3 => ?_)
            · conv => whnf
              refine Exists.intro _ (And.intro (And.intro rfl (by omega)) ?_)
              conv => whnf
              refine ⟨?_, frS_I (y := 68) (by omega) R⟩
              exact congrArg (fun v => some (Value.int v)) (z2 k0 hkm)
            · exact absurd (nI_lt hkm (by omega)) c3
          · rw [if_neg hkm]
            conv => whnf
            refine And.intro (fun c3 => ?_) (fun c3 => ?_)
            · exact absurd c3 (nI_nlt (by omega) hk)
            · conv => whnf
              exact ⟨rfl, frS_I (y := 68) (by omega) R⟩
theorem q_span {h : ia_H} {G n : Nat} (hG : G ≤ 41) (e1 : h.1 4 6 = nI G) (e2 : h.1 52 4 = nI G) (hp : gpOk h G n) (x : Int32) : P_ 78 [.ref 0, .int x] 146 [.ref 52, .int x] h := by
  rcases bad_or x (show G < 2 ^ 31 by omega) with hb | ⟨a, ha, rfl⟩
  · refine P_of (v := .long (-9223372036854775808)) ?_ ?_
    · refine ia_V_in ia_k_X7_span [some (.ref 0), some (.int x), none] rfl rfl (Nat.le_of_ble_eq_true rfl) rfl ?_
      refine ia_walk (fun _ => false) 60 (fun X hX => ?_)
      conv => whnf
      refine Exists.intro (_, _) (And.intro (ia_callE (v_isGa0 e1 hb)) ?_)
      conv => whnf
      refine And.intro (fun c => ?_) (fun c => ?_)
      · conv => whnf
        exact ⟨rfl, rfl⟩
      · exact absurd rfl c
    · refine ia_V_in ia_k_X8_span [some (.ref 52), some (.int x), none] rfl rfl (Nat.le_of_ble_eq_true rfl) rfl ?_
      refine ia_walk (fun _ => false) 60 (fun X hX => ?_)
      conv => whnf
      refine Exists.intro (_, _) (And.intro (ia_callE (m_isGa0 e2 hb)) ?_)
      conv => whnf
      refine And.intro (fun c => ?_) (fun c => ?_)
      · conv => whnf
        exact ⟨rfl, rfl⟩
      · exact absurd rfl c
  · obtain ⟨r', h2, ev, m, q, R, z1, z2, z3, z4⟩ := m_laysOrder h a G ha hG e2
    subst z3 z4
    have hm := z1.1
    have hm0 : 0 < m := by
      obtain ⟨i, i1, -⟩ := z1.2.2.1 a ha (decide_eq_true rfl)
      omega
    obtain ⟨m', rfl⟩ : ∃ m', m = m' + 1 := ⟨m - 1, by omega⟩
    have hq0 := z1.2.1 0 (by omega)
    have hqm := z1.2.1 m' (by omega)
    have hmem : ∀ g, g < 41 → h.1 27 g = h.1 27 a → ∃ i, i < m' + 1 ∧ q i = g ∧ h.2 28 g = h.2 61 g := by
      intro g hg e
      obtain ⟨p1, p2⟩ := (gp_in hG hp ha hg).mp e
      obtain ⟨i, i1, i2⟩ := z1.2.2.1 g p1 p2
      exact ⟨i, i1, i2, (gp_eq hp p1).2.symm⟩
    have hl : ∃ l, gIl l (h.1 27) (h.2 28) := by
      obtain ⟨l, l1, -⟩ := hp
      exact ⟨l, l1⟩
    obtain ⟨l, hl⟩ := hl
    have ehi : gr_hi (h.1 27) (h.2 28) (h.1 27 a) 41 = h.2 61 (q m') := by
      obtain ⟨p1, g, p2, p3, p4⟩ := gr_hi_at hl (show a < 41 by omega)
      obtain ⟨i, i1, i2, i3⟩ := hmem g p2 p3
      refine Int64.toInt_inj.mp ?_
      have b1 := p1 (q m') (by omega) ((gp_in hG hp ha (by omega)).mpr hqm)
      rw [← (gp_eq hp hqm.1).2] at b1
      have b2 : (h.2 61 g).toInt ≤ (h.2 61 (q m')).toInt := by
        by_cases z : i = m'
        · rw [← i2, z]; exact Int.le_refl _
        · have := (ahd_i _ _ _).mp (z1.2.2.2.1 i m' (by omega) (by omega))
          rw [i2] at this
          omega
      rw [← i3, p4] at b2
      omega
    have elo : gr_lo (h.1 27) (h.2 28) (h.1 27 a) 41 = h.2 61 (q 0) := by
      obtain ⟨p1, g, p2, p3, p4⟩ := gr_lo_at hl (show a < 41 by omega)
      obtain ⟨i, i1, i2, i3⟩ := hmem g p2 p3
      refine Int64.toInt_inj.mp ?_
      have b1 := p1 (q 0) (by omega) ((gp_in hG hp ha (by omega)).mpr hq0)
      rw [← (gp_eq hp hq0.1).2] at b1
      have b2 : (h.2 61 (q 0)).toInt ≤ (h.2 61 g).toInt := by
        by_cases z : i = 0
        · rw [← i2, z]; exact Int.le_refl _
        · have := (ahd_i _ _ _).mp (z1.2.2.2.1 0 i (by omega) i1)
          rw [i2] at this
          omega
      rw [← i3, p4] at b2
      omega
    have hc : V_ 78 [.ref 0, .int (nI a)] h (Z_ (.long (h.2 61 (q m') - h.2 61 (q 0))) h) := by
      rw [← ehi, ← elo]
      refine ia_V_in ia_k_X7_span [some (.ref 0), some (.int (nI a)), none] rfl rfl (Nat.le_of_ble_eq_true rfl) rfl ?_
      refine ia_walk (fun _ => false) 60 (fun X hX => ?_)
      conv => whnf
      refine Exists.intro (_, _) (And.intro (ia_callE (v_isGa1 e1 (by omega) ha)) ?_)
      conv => whnf
      refine And.intro (fun c => ?_) (fun c => ?_)
      · exact absurd (show (1 : Int32) = 0 from c) (by decide)
      · conv => whnf
        refine Exists.intro _ (And.intro (And.intro rfl (by omega)) ?_)
        conv => whnf
        refine Exists.intro (_, _) (And.intro (ia_callE (v_highest h (h.1 27 a))) ?_)
        conv => whnf
        refine Exists.intro (_, _) (And.intro (ia_callE (v_lowest h (h.1 27 a))) ?_)
        conv => whnf
        exact ⟨rfl, rfl⟩
    obtain ⟨r, h1, ev1, y1, y2⟩ := hc
    subst y1 y2
    refine ⟨_, _, ev1, frS_rfl _, ?_⟩
    refine ia_V_in ia_k_X8_span [some (.ref 52), some (.int (nI a)), none] rfl rfl (Nat.le_of_ble_eq_true rfl) rfl ?_
    refine ia_walk (fun _ => false) 60 (fun X hX => ?_)
    conv => whnf
    refine Exists.intro (_, _) (And.intro (ia_callE (m_isGa1 e2 (by omega) ha)) ?_)
    conv => whnf
    refine And.intro (fun c => ?_) (fun c => ?_)
    · exact absurd (show (1 : Int32) = 0 from c) (by decide)
    · conv => whnf
      refine Exists.intro (_, _) (And.intro ev ?_)
      conv => whnf
      refine Exists.intro (m') (And.intro (And.intro (nI_pred m') (by omega)) ?_)
      conv => whnf
      refine Exists.intro (q m') (And.intro (And.intro (z2 m' (by omega)) (by omega)) ?_)
      conv => whnf
      refine Exists.intro (0) (And.intro (And.intro (rfl) (by omega)) ?_)
      conv => whnf
      refine Exists.intro (q 0) (And.intro (And.intro (z2 0 (by omega)) (by omega)) ?_)
      conv => whnf
      exact ⟨rfl, frS_I (y := 68) (by omega) R⟩
