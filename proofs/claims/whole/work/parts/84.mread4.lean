/-! the reference reads texts -/
def MA (h : ia_H) (f : Nat → Int32) (L : Nat) (t : tdT) (res : Nat × tdT) (r : Option Value) (H : ia_H) : Prop := (res.1 = 0 ∧ r = some (.int 1) ∧ ∃ p, MR h H f L res.2 p) ∨ (¬ res.1 = 0 ∧ r = some (.int 0) ∧ H.1 52 3 = nI res.1 ∧ ∃ d' p', MR h H f L d' p' ∧ tdX t d')
/-- behind the last statement -/
theorem l_raE {h K : ia_H} {f : Nat → Int32} {L q : Nat} {d t : tdT} (hm : MR h K f L d q) (hx : tdX t d) (hq : bl f L q = q) (a1 a2 : Option Value) {Z : Option Value → ia_H → Prop} (hZ : ∀ r H', MA h f L t (if q < L then (8 * q + 1, d) else (0, d)) r H' → Z r H') : R_ ia_k_X8_readsAll Z (25, [some (.ref 52), a1, a2, some (.int 0)], [], K) := by
  have hb : ∀ i, i < L → byR (f i) := fun i hi => (hm.2.1.2.2.2.2 i hi).2
  have vn := m_next hm.2.1
  have ho := hr_o hb (j := q)
  rw [hq] at vn
  have e22 : K.1 52 2 = nI q := hm.2.1.2.2.2.1
  rw [hAt_e e22] at vn
  generalize hV : hrV f L q = v at *
  refine ia_walk (fun _ => false) 60 (fun X hX => ?_)
  conv => whnf
  refine And.intro (fun c0 => ?_) (fun c0 => ?_)
  · conv => whnf
    refine Exists.intro (_, _) (And.intro (ia_callE (vn)) ?_)
    conv => whnf
    refine And.intro (fun c1 => ?_) (fun c1 => ?_)
    · have c1 : v = -1 := c1
      rw [if_neg (ho.mp c1)] at hZ
      conv => whnf
      exact ⟨Or.inr rfl, hZ _ _ (Or.inl ⟨rfl, rfl, q, hm⟩)⟩
    · have c1 : ¬ v = -1 := c1
      have hlt : q < L := Classical.byContradiction (fun z => c1 (ho.mpr z))
      rw [if_pos hlt] at hZ
      conv => whnf
      have evf := ia_callE (m_fails K (pl := q) (w := 1))
      rw [← e22] at evf
      refine Exists.intro (_, _) (And.intro evf ?_)
      conv => whnf
      refine And.intro (fun c2 => ?_) (fun c2 => ?_)
      · conv => whnf
        exact ⟨Or.inl rfl, hZ _ _ (Or.inr ⟨by show ¬ 8 * q + 1 = 0; omega, rfl, rfl, d, q, MR_wr hm _, hx⟩)⟩
      · exact absurd rfl c2
  · exact absurd rfl c0
theorem l_ra {h : ia_H} {f : Nat → Int32} {L n0 : Nat} {t : tdT} (hL : L ≤ 300) {Z : Option Value → ia_H → Prop} : ∀ (k n pl : Nat) (d : tdT) (H : ia_H), n + k = 13 → 1 ≤ k → tdN d = n0 + n → MR h H f L d pl → tdX t d → (∀ r H', MA h f L t (txT f L n0 k d pl) r H' → Z r H') → R_ ia_k_X8_readsAll Z (25, [some (.ref 52), some (.int 0), some (.int (nI n)), some (.int 1)], [], H) := by
  intro k
  induction k with
  | zero => intro n pl d H h1 h2; omega
  | succ k ih =>
    intro n pl d H hk _ hd hm hx hZ
    obtain ⟨s1, s2, s3, s4⟩ := st_ok (f := f) (n0 := n0) hm.2.2.2.2.2 hL hm.2.1.2.1
    obtain ⟨r1, K1, ev1, z1⟩ := m_st hm hd (by omega)
    rw [txT] at hZ
    have ih := ih (n + 1)
    generalize hS : stT f L n0 d pl = st at *
    refine ia_walk (fun pc => Nat.beq pc 25) 60 (fun X hX => ?_)
    conv => whnf
    refine And.intro (fun c0 => absurd (show (1 : Int32) = 0 from c0) (by decide)) (fun c0 => ?_)
    rcases z1 with ⟨y1, y2, y3⟩ | ⟨y1, y2, y3, y4⟩
    · subst y2
      rw [if_pos y1] at hZ
      have hple := (s4 y1).2.1
      obtain ⟨r2, K2, ev2, w⟩ := m_takes y3 (c := 59) (by decide)
      have hrr : bl f L (bl f L st.2.2) = bl f L st.2.2 := rn_rn (isS_o _ _ _) hple
      conv => whnf
      refine Exists.intro (_, _) (And.intro ev1 ?_)
      conv => whnf
      refine And.intro (fun c1 => ?_) (fun c1 => ?_)
      · exact absurd (show (1 : Int32) = 0 from c1) (by decide)
      · conv => whnf
        refine And.intro (fun c2 => ?_) (fun c2 => ?_)
        · rcases w with ⟨w1, w2, w3⟩ | ⟨w1, w2, w3⟩
          · have w1 : isS f L 59 (bl f L st.2.2) = true := w1
            subst w2
            rw [if_pos (isS_lt w1), if_pos w1] at hZ
            conv => whnf
            refine Exists.intro (_, _) (And.intro ev2 ?_)
            conv => whnf
            refine And.intro (fun c3 => ?_) (fun c3 => ?_)
            · exact absurd (show (1 : Int32) = 0 from c3) (by decide)
            · have hk1 : 1 ≤ k := by
                have := (s4 y1).2.2.2
                omega
              conv => whnf
              rw [nI_1]
              exact hX _ (ih _ _ K2 (by omega) hk1 (by rw [(s4 y1).1, hd]; omega) w3 (tdX_t hx s1) hZ)
          · have w1 : ¬ isS f L 59 (bl f L st.2.2) = true := w1
            subst w2
            rw [if_neg w1] at hZ
            conv => whnf
            refine Exists.intro (_, _) (And.intro ev2 ?_)
            conv => whnf
            refine And.intro (fun c3 => ?_) (fun c3 => ?_)
            · conv => whnf
              exact hX _ (l_raE w3 (tdX_t hx s1) hrr _ _ hZ)
            · exact absurd rfl c3
        · exact absurd rfl c2
    · subst y2
      rw [if_neg y1] at hZ
      obtain ⟨d', p', y4, y5⟩ := y4
      conv => whnf
      refine Exists.intro (_, _) (And.intro ev1 ?_)
      conv => whnf
      refine And.intro (fun c1 => ?_) (fun c1 => ?_)
      · conv => whnf
        exact ⟨Or.inl rfl, hZ _ _ (Or.inr ⟨y1, rfl, y3, d', p', y4, tdX_t hx y5⟩)⟩
      · exact absurd rfl c1
theorem MR_0 {h : ia_H} {f : Nat → Int32} {L : Nat} {t : tdT} (hok : tdOk t) (hr : mRep h t) (hL : L ≤ 300) (e1 : h.1 52 1 = nI L) (hf : ∀ j, j < L → h.1 53 j = f j ∧ byR (f j)) : MR h (hsI (hsI (hsI h 52 (upd (h.1 52) 2 0)) 52 (upd (upd (h.1 52) 2 0) 6 (h.1 52 4))) 52 (upd (upd (upd (h.1 52) 2 0) 6 (h.1 52 4)) 15 (h.1 52 10))) f L t 0 := by
  refine ⟨⟨fun y h1 _ _ _ _ _ => ?_, fun _ _ _ => rfl, fun j j1 j2 j3 j4 j5 => ?_⟩, ⟨hL, Nat.zero_le _, e1, rfl, hf⟩, hr.1, hr.2.1, hr.2.2, hok⟩
  · show (if y = 52 then _ else if y = 52 then _ else if y = 52 then _ else h.1 y) = _
    rw [if_neg h1, if_neg h1, if_neg h1]
  · show upd (upd (upd (h.1 52) 2 0) 6 _) 15 _ j = _
    rw [updn j5, updn j3, updn j1]
theorem m_readsAll {h : ia_H} {f : Nat → Int32} {L : Nat} {t : tdT} (hok : tdOk t) (hr : mRep h t) (hL : L ≤ 300) (e1 : h.1 52 1 = nI L) (hf : ∀ j, j < L → h.1 53 j = f j ∧ byR (f j)) : V_ 112 [.ref 52, .int 0] h (fun r H' => MA h f L t (txT f L (tdN t) 13 t 0) r H') := by
  refine ia_V_in ia_k_X8_readsAll [some (.ref 52), some (.int 0), none, none] rfl rfl (Nat.le_of_ble_eq_true rfl) rfl ?_
  refine ia_walk (fun pc => Nat.beq pc 25) 60 (fun X hX => ?_)
  conv => whnf
  exact hX _ (l_ra hL (Z := fun r H' => MA h f L t (txT f L (tdN t) 13 t 0) r H') 13 0 0 t _ rfl (by decide) rfl (MR_0 hok hr hL e1 hf) (tdX_r t) (fun _ _ q => q))
theorem m_readsOne {h : ia_H} {f : Nat → Int32} {L : Nat} {t : tdT} (hok : tdOk t) (hr : mRep h t) (hL : L ≤ 300) (e1 : h.1 52 1 = nI L) (hf : ∀ j, j < L → h.1 53 j = f j ∧ byR (f j)) : V_ 112 [.ref 52, .int 1] h (fun r H' => MA h f L t (loT f L t) r H') := by
  have hm := MR_0 hok hr hL e1 hf
  obtain ⟨s1, s2, s3, s4⟩ := st_ok (f := f) (n0 := tdN t) (pl := 0) hok hL (Nat.zero_le L)
  obtain ⟨r1, K1, ev1, z1⟩ := m_st hm (n0 := tdN t) (n := 0) rfl (by decide)
  have elo : loT f L t = loT f L t := rfl
  conv at elo => rhs; unfold loT
  generalize hS : stT f L (tdN t) t 0 = st at *
  refine ia_V_in ia_k_X8_readsAll [some (.ref 52), some (.int 1), none, none] rfl rfl (Nat.le_of_ble_eq_true rfl) rfl ?_
  refine ia_walk (fun pc => Nat.beq pc 25) 60 (fun X hX => ?_)
  conv => whnf
  refine hX _ ?_
  refine ia_walk (fun pc => Nat.beq pc 25) 60 (fun X hX => ?_)
  conv => whnf
  refine And.intro (fun c0 => absurd (show (1 : Int32) = 0 from c0) (by decide)) (fun c0 => ?_)
  rcases z1 with ⟨y1, y2, y3⟩ | ⟨y1, y2, y3, d', p', y4, y5⟩
  · subst y2
    rw [if_pos y1] at elo
    have hple := (s4 y1).2.1
    have hb : ∀ i, i < L → byR (f i) := fun i hi => (y3.2.1.2.2.2.2 i hi).2
    conv => whnf
    refine Exists.intro (_, _) (And.intro ev1 ?_)
    conv => whnf
    refine And.intro (fun c1 => ?_) (fun c1 => ?_)
    · exact absurd (show (1 : Int32) = 0 from c1) (by decide)
    · conv => whnf
      refine And.intro (fun c2 => ?_) (fun c2 => ?_)
      · exact absurd (show (1 : Int32) = 0 from c2) (by decide)
      · conv => whnf
        refine hX _ ?_
        obtain ⟨b1, b2⟩ : st.2.2 ≤ bl f L st.2.2 ∧ bl f L st.2.2 ≤ L := rn_le (isS f L 32) hple
        have vn := m_next y3.2.1
        have hm2 := MR_at y3 b2
        have ho := hr_o hb (j := bl f L st.2.2)
        generalize hP : bl f L st.2.2 = q at *
        generalize hV : hrV f L q = v at *
        refine ia_walk (fun _ => false) 60 (fun X hX => ?_)
        conv => whnf
        refine And.intro (fun c3 => ?_) (fun c3 => ?_)
        · conv => whnf
          refine Exists.intro (_, _) (And.intro (ia_callE (vn)) ?_)
          conv => whnf
          refine And.intro (fun c4 => ?_) (fun c4 => ?_)
          · have c4 : v = -1 := c4
            rw [if_neg (ho.mp c4)] at elo
            conv => whnf
            rw [elo]
            exact ⟨Or.inr rfl, Or.inl ⟨rfl, rfl, q, hm2⟩⟩
          · have c4 : ¬ v = -1 := c4
            have hlt : q < L := Classical.byContradiction (fun z => c4 (ho.mpr z))
            rw [if_pos hlt] at elo
            conv => whnf
            have evf := ia_callE (m_fails (hAt K1 q) (pl := q) (w := 1))
            refine Exists.intro (_, _) (And.intro evf ?_)
            conv => whnf
            refine And.intro (fun c5 => ?_) (fun c5 => ?_)
            · conv => whnf
              rw [elo]
              exact ⟨Or.inl rfl, Or.inr ⟨by show ¬ 8 * q + 1 = 0; omega, rfl, rfl, _, q, MR_wr hm2 _, s1⟩⟩
            · exact absurd rfl c5
        · exact absurd rfl c3
  · subst y2
    rw [if_neg y1] at elo
    conv => whnf
    refine Exists.intro (_, _) (And.intro ev1 ?_)
    conv => whnf
    refine And.intro (fun c1 => ?_) (fun c1 => ?_)
    · conv => whnf
      rw [elo]
      exact ⟨Or.inl rfl, Or.inr ⟨y1, rfl, y3, d', p', y4, y5⟩⟩
    · exact absurd rfl c1
