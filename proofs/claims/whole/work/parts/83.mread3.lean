/-! the reference reads statements and texts -/
def MS (h : ia_H) (f : Nat → Int32) (L : Nat) (d0 : tdT) (st : Nat × tdT × Nat) (r : Option Value) (H : ia_H) : Prop := (st.1 = 0 ∧ r = some (.int 1) ∧ MR h H f L st.2.1 st.2.2) ∨ (¬ st.1 = 0 ∧ r = some (.int 0) ∧ H.1 52 3 = nI st.1 ∧ ∃ d' p', MR h H f L d' p' ∧ tdX d0 d')
theorem l_sfin {h K : ia_H} {f : Nat → Int32} {L p : Nat} {d : tdT} (hm : MR h K f L d p) (hn : tdN d < 120) {a b : Nat} (ha : a < tdG d) (hb : b < tdG d) (hab : a ≠ b) {m : Int64} (hmm : -1000000000000000000 ≤ m.toInt ∧ m.toInt ≤ 1000000000000000000) (a1 a6 : Option Value) {Z : Option Value → ia_H → Prop} (hZ : ∀ H', MR h H' f L (stAdd d a b m) p → Z (some (.int 1)) H') : R_ ia_k_X8_readsStatement Z (208, [some (.ref 52), a1, some (.int (nI a)), some (.int (nI b)), some (.long m), none, a6], [], K) := by
  have e15 := hm.2.2.2.1
  refine ia_walk (fun _ => false) 60 (fun X hX => ?_)
  conv => whnf
  refine Exists.intro (tdN d) (And.intro (And.intro (e15) (by omega)) ?_)
  conv => whnf
  refine Exists.intro (tdN d) (And.intro (And.intro (e15) (by omega)) ?_)
  conv => whnf
  refine Exists.intro (tdN d) (And.intro (And.intro (e15) (by omega)) ?_)
  conv => whnf
  refine Exists.intro (tdN d) (And.intro (And.intro (e15) (by omega)) ?_)
  conv => whnf
  refine ⟨Or.inr rfl, hZ _ ?_⟩
  obtain ⟨⟨m1, m2, m3⟩, m4, m5, m6, m7, m8⟩ := hm
  refine ⟨⟨fun y h1 h2 h3 h4 h5 h6 => ?_, fun y h1 h2 => ?_, fun j j1 j2 j3 j4 j5 => ?_⟩, m4, m5, ?_, ⟨m7.1, fun s hs => ?_⟩, stAdd_ok m8 hn ha hb hab hmm⟩
  · show (if y = 52 then _ else if y = 59 then _ else if y = 57 then _ else if y = 56 then _ else K.1 y) = _
    rw [if_neg h1, if_neg h6, if_neg h5, if_neg h4]
    exact m1 y h1 h2 h3 h4 h5 h6
  · show (if y = 58 then _ else K.2 y) = _
    rw [if_neg h2]
    exact m2 y h1 h2
  · show upd (K.1 52) 15 _ j = _
    rw [updn j5]
    exact m3 j j1 j2 j3 j4 j5
  · show K.1 52 15 + 1 = nI (tdN d + 1)
    rw [m6, nI_1]
  · have hs : s < tdN d + 1 := hs
    show upd (K.1 56) (tdN d) (nI a) s = nI (if s = tdN d then a else tdA d s) ∧ upd (K.1 57) (tdN d) (nI b) s = nI (if s = tdN d then b else tdB d s) ∧ vp_updL (K.2 58) (tdN d) m s = (if s = tdN d then m else tdM d s) ∧ upd (K.1 59) (tdN d) (vp_nar .boolean 0) s = oI (if s = tdN d then false else tdO d s)
    by_cases e : s = tdN d
    · rw [e, updp, updp, updp, if_pos rfl, if_pos rfl, if_pos rfl, if_pos rfl]
      exact ⟨rfl, rfl, if_pos rfl, rfl⟩
    · rw [updn e, updn e, updn e, if_neg e, if_neg e, if_neg e, if_neg e, show vp_updL (K.2 58) (tdN d) m s = K.2 58 s from if_neg e]
      exact m7.2 s (by omega)
theorem m_st {h H : ia_H} {f : Nat → Int32} {L pl : Nat} {d : tdT} (hm : MR h H f L d pl) {n0 n : Nat} (hn : tdN d = n0 + n) (hn12 : n ≤ 12) : V_ 111 [.ref 52, .int (nI n)] H (fun r H' => MS h f L d (stT f L n0 d pl) r H') := by
  have hb : ∀ i, i < L → byR (f i) := fun i hi => (hm.2.1.2.2.2.2 i hi).2
  have hL := hm.2.1.1
  have hok := hm.2.2.2.2.2
  have oG := hok.2.1
  have oN := hok.2.2.1
  obtain ⟨b1, b2⟩ : pl ≤ bl f L pl ∧ bl f L pl ≤ L := rn_le (isS f L 32) hm.2.1.2.1
  have vn := m_next hm.2.1
  have hm1 := MR_at hm b2
  obtain ⟨n1, n2, n3, n4, n5, n6, n7⟩ := nm_ok (f := f) hok hL b2
  have est : stT f L n0 d pl = stT f L n0 d pl := rfl
  conv at est => rhs; unfold stT
  generalize hB : bl f L pl = p1 at *
  have e15 : (hAt H p1).1 52 15 = nI (tdN d) := hm1.2.2.2.1
  refine ia_V_in ia_k_X8_readsStatement [some (.ref 52), some (.int (nI n)), none, none, none, none, none] rfl rfl (Nat.le_of_ble_eq_true rfl) rfl ?_
  refine ia_walk (fun pc => Nat.beq pc 35 || Nat.beq pc 45) 90 (fun X hX => ?_)
  conv => whnf
  refine Exists.intro (_, _) (And.intro (ia_callE (vn)) ?_)
  conv => whnf
  obtain ⟨v, ev, ev'⟩ := ia_callN (m_isLetter (h := hAt H p1) hb p1)
  refine Exists.intro (_, _) (And.intro ev' ?_)
  clear ev'
  conv => whnf
  refine And.intro (fun c0 => ?_) (fun c0 => ?_)
  · have q : isLt f L p1 = false := oI_0.mp (ev.symm.trans c0)
    have enm : nmT f L d p1 = (8 * p1 + 1, -1, d, rn (isLt f L) L p1) := by
      unfold nmT
      rw [if_pos (rn_f q)]
    rw [if_neg (fun z => by rw [q] at z; exact absurd z.1 (by decide)), enm, if_neg (show ¬ 8 * p1 + 1 = 0 by omega)] at est
    conv => whnf
    have evf := ia_callE (m_fails (hAt H p1) (pl := p1) (w := 1))
    refine Exists.intro (_, _) (And.intro evf ?_)
    conv => whnf
    rw [est]
    exact ⟨Or.inl rfl, Or.inr ⟨by show ¬ 8 * p1 + 1 = 0; omega, rfl, rfl, d, p1, MR_wr hm1 _, tdX_r d⟩⟩
  · have q : isLt f L p1 = true := by
      cases hq : isLt f L p1
      · rw [hq] at ev; exact absurd ev c0
      · rfl
    have full : (120 ≤ tdN d ∨ 12 ≤ tdN d - n0) → R_ ia_k_X8_readsStatement (fun r H' => MS h f L d (stT f L n0 d pl) r H') (35, [some (.ref 52), some (.int (nI n)), none, none, none, none, none], [], hAt H p1) := by
      intro qf
      rw [if_pos ⟨q, qf⟩] at est
      refine ia_walk (fun _ => false) 60 (fun X hX => ?_)
      conv => whnf
      have evf := ia_callE (m_fails (hAt H p1) (pl := p1) (w := 5))
      refine Exists.intro (_, _) (And.intro evf ?_)
      conv => whnf
      rw [est]
      exact ⟨Or.inl rfl, Or.inr ⟨by show ¬ 8 * p1 + 5 = 0; omega, rfl, rfl, d, p1, MR_wr hm1 _, tdX_r d⟩⟩
    have main : ¬ (120 ≤ tdN d ∨ 12 ≤ tdN d - n0) → R_ ia_k_X8_readsStatement (fun r H' => MS h f L d (stT f L n0 d pl) r H') (45, [some (.ref 52), some (.int (nI n)), none, none, none, none, none], [], hAt H p1) := by
      intro qf
      rw [if_neg (fun z => qf z.2)] at est
      obtain ⟨r1, K1, ev1, z1⟩ := m_readsName hm1 q (-1)
      generalize hN : nmT f L d p1 = nm at *
      rcases z1 with ⟨y1, y2, y3, y4, y5⟩ | ⟨y1, y3, y4, y5⟩
      · subst y3
        rw [if_pos y1] at est
        rcases n7 with ⟨m0, g, m1, m2, m3⟩ | ⟨m0, m1⟩
        · have oG2 := n2.2.1
          obtain ⟨d1, d2⟩ : nm.2.2.2 ≤ bl f L nm.2.2.2 ∧ bl f L nm.2.2.2 ≤ L := rn_le (isS f L 32) n5
          obtain ⟨r2, K2, ev2, x1⟩ := m_takes y5 (c := 61) (by decide)
          rw [m1] at y4
          rw [m1, toN g (by omega)] at est
          refine ia_walk (fun pc => Nat.beq pc 208 || Nat.beq pc 180 || Nat.beq pc 129) 90 (fun X hX => ?_)
          conv => whnf
          refine Exists.intro (_, _) (And.intro ev1 ?_)
          conv => whnf
          refine And.intro (fun c1 => ?_) (fun c1 => ?_)
          · exact absurd (show (1 : Int32) = 0 from c1) (by decide)
          · rcases x1 with ⟨x1, x2, x3⟩ | ⟨x1, x2, x3⟩
            · have x1 : isS f L 61 (bl f L nm.2.2.2) = true := x1
              subst x2
              rw [if_pos x1] at est
              conv at est => rhs; unfold rsT
              obtain ⟨f1, f2⟩ : bl f L nm.2.2.2 + 1 ≤ bl f L (bl f L nm.2.2.2 + 1) ∧ bl f L (bl f L nm.2.2.2 + 1) ≤ L := rn_le (isS f L 32) (isS_lt x1)
              have vn2 := m_next x3.2.1
              have hm4 := MR_at x3 f2
              obtain ⟨k1, k2, k3, k4, k5, k6, k7⟩ := nm_ok (f := f) n2 hL f2
              generalize hP4 : bl f L (bl f L nm.2.2.2 + 1) = p4 at *
              conv => whnf
              refine Exists.intro (_, _) (And.intro ev2 ?_)
              conv => whnf
              refine And.intro (fun c2 => ?_) (fun c2 => ?_)
              · exact absurd (show (1 : Int32) = 0 from c2) (by decide)
              · conv => whnf
                refine Exists.intro (_, _) (And.intro (ia_callE (vn2)) ?_)
                conv => whnf
                obtain ⟨v2, ev2b, ev'⟩ := ia_callN (m_isLetter (h := hAt K2 p4) hb p4)
                refine Exists.intro (_, _) (And.intro ev' ?_)
                clear ev'
                conv => whnf
                refine And.intro (fun c3 => ?_) (fun c3 => ?_)
                · have q4 : isLt f L p4 = false := oI_0.mp (ev2b.symm.trans c3)
                  rw [if_neg (show ¬ isLt f L p4 = true by rw [q4]; decide)] at est
                  have ebl : bl f L p4 = p4 := by rw [← hP4]; exact rn_rn (isS_o _ _ _) (isS_lt x1)
                  obtain ⟨r5, K5, ev5, w1⟩ := m_takes hm4 (c := 45) (by decide)
                  rw [ebl] at w1
                  have am := am_ok (f := f) (b := true) f2
                  -- behind the sign, or without one
                  have tail : ∀ (sg : Int32) (p5 : Nat) (K : ia_H), MR h K f L nm.2.2.1 p5 → ((sg = 1 ∧ isS f L 45 p4 = true ∧ p5 = p4 + 1) ∨ (sg = 0 ∧ ¬ isS f L 45 p4 = true ∧ p5 = p4)) → R_ ia_k_X8_readsStatement (fun r H' => MS h f L d (stT f L n0 d pl) r H') (180, [some (.ref 52), some (.int (nI n)), some (.int (K1.1 52 8)), some (.int 0), some (.long 0), none, some (.int sg)], [], K) := by
                    intro sg p5 K hK hsg
                    obtain ⟨r6, K6, ev6, u1⟩ := m_readsNumber hK
                    have eam : amT f L true p4 = ((nbT f L p5).1, (if sg = 1 then -(nbT f L p5).2.1 else (nbT f L p5).2.1), (nbT f L p5).2.2) := by
                      unfold amT
                      rcases hsg with ⟨s1, s2, s3⟩ | ⟨s1, s2, s3⟩
                      · rw [if_pos s2, s3, if_pos s1]
                      · rw [if_neg s2, if_pos rfl, s3, if_neg (by rw [s1]; decide)]
                    rw [eam] at est am
                    refine ia_walk (fun pc => Nat.beq pc 208) 90 (fun X hX => ?_)
                    rcases u1 with ⟨u1, u2, u3, u4⟩ | ⟨u1, u2, u3, p6, u4⟩
                    · subst u2
                      rw [if_pos u1] at est
                      conv => whnf
                      refine Exists.intro (_, _) (And.intro ev6 ?_)
                      conv => whnf
                      refine And.intro (fun c4 => ?_) (fun c4 => ?_)
                      · exact absurd (show (1 : Int32) = 0 from c4) (by decide)
                      · conv => whnf
                        refine And.intro (fun c5 => ?_) (fun c5 => ?_)
                        · have c5 : sg = 0 := c5
                          have e0 : ¬ sg = 1 := by rw [c5]; decide
                          rw [if_neg e0] at est am
                          have lf := l_sfin u4 (by omega) m3 (by omega) (show g ≠ 0 by omega) ⟨am.2.2.1, am.2.2.2⟩ (some (.int (nI n))) (some (.int sg)) (Z := fun r H' => MS h f L d (stT f L n0 d pl) r H') (fun H' hH' => by rw [est]; exact Or.inl ⟨rfl, rfl, hH'⟩)
                          rw [← y4, ← u3] at lf
                          conv => whnf
                          exact hX _ (lf)
                        · have c5 : ¬ sg = 0 := c5
                          have e1 : sg = 1 := by
                            rcases hsg with ⟨s1, -⟩ | ⟨s1, -⟩
                            · exact s1
                            · exact absurd s1 c5
                          rw [if_pos e1] at est am
                          have lf := l_sfin u4 (by omega) m3 (by omega) (show g ≠ 0 by omega) ⟨am.2.2.1, am.2.2.2⟩ (some (.int (nI n))) (some (.int sg)) (Z := fun r H' => MS h f L d (stT f L n0 d pl) r H') (fun H' hH' => by rw [est]; exact Or.inl ⟨rfl, rfl, hH'⟩)
                          rw [← y4, ← u3] at lf
                          conv => whnf
                          exact hX _ (lf)
                    · subst u2
                      rw [if_neg u1] at est
                      conv => whnf
                      refine Exists.intro (_, _) (And.intro ev6 ?_)
                      conv => whnf
                      refine And.intro (fun c4 => ?_) (fun c4 => ?_)
                      · conv => whnf
                        rw [est]
                        exact ⟨Or.inl rfl, Or.inr ⟨u1, rfl, u3, _, p6, u4, n1⟩⟩
                      · exact absurd rfl c4
                  rcases w1 with ⟨w1, w2, w3⟩ | ⟨w1, w2, w3⟩
                  · subst w2
                    have tl := tail 1 (p4 + 1) K5 w3 (Or.inl ⟨rfl, w1, rfl⟩)
                    conv => whnf
                    refine Exists.intro (_, _) (And.intro ev5 ?_)
                    conv => whnf
                    exact hX _ (tl)
                  · subst w2
                    have tl := tail 0 p4 K5 w3 (Or.inr ⟨rfl, w1, rfl⟩)
                    conv => whnf
                    refine Exists.intro (_, _) (And.intro ev5 ?_)
                    conv => whnf
                    exact hX _ (tl)
                · have q4 : isLt f L p4 = true := by
                    cases hq : isLt f L p4
                    · rw [hq] at ev2b; exact absurd ev2b c3
                    · rfl
                  rw [if_pos q4] at est
                  obtain ⟨r5, K5, ev5, w1⟩ := m_readsName hm4 q4 (nI g)
                  rw [← y4] at ev5
                  generalize hN2 : nmT f L nm.2.2.1 p4 = nm2 at *
                  rcases w1 with ⟨w1, w2, w3, w4, w5⟩ | ⟨w1, w3, w4, w5⟩
                  · subst w3
                    rw [if_pos w1, if_neg w2] at est
                    rcases k7 with ⟨j0, g2, j1, j2, j3⟩ | ⟨j0, j1⟩
                    · have oG3 := k2.2.1
                      obtain ⟨i1, i2⟩ : nm2.2.2.2 ≤ bl f L nm2.2.2.2 ∧ bl f L nm2.2.2.2 ≤ L := rn_le (isS f L 32) k5
                      have vn6 := m_next w5.2.1
                      have hm6 := MR_at w5 i2
                      rw [j1] at w4 w2
                      rw [j1, toN g2 (by omega)] at est
                      have hgg : g ≠ g2 := fun z => w2 (by rw [z])
                      have am := am_ok (f := f) (b := false) i2
                      generalize hP6 : bl f L nm2.2.2.2 = p6 at *
                      have s45 : hrV f L p6 = 45 ↔ isS f L 45 p6 = true := hr_s hb (c := 45) (by decide)
                      have s43 : hrV f L p6 = 43 ↔ isS f L 43 p6 = true := hr_s hb (c := 43) (by decide)
                      generalize hSg : hrV f L p6 = sg at *
                      have gG : g < tdG nm2.2.2.1 := Nat.lt_of_lt_of_le m3 k1.1
                      have tail : (sg = 45 ∨ sg = 43) → R_ ia_k_X8_readsStatement (fun r H' => MS h f L d (stT f L n0 d pl) r H') (129, [some (.ref 52), some (.int (nI n)), some (.int (K1.1 52 8)), some (.int (K5.1 52 8)), some (.long 0), none, some (.int sg)], [], hAt K5 p6) := by
                        intro hsg
                        have hlt : p6 < L := hsg.elim (fun z => isS_lt (s45.mp z)) (fun z => isS_lt (s43.mp z))
                        have hK := MR_at hm6 (q := p6 + 1) hlt
                        rw [← at_u (show (hAt K5 p6).1 52 2 = nI p6 from rfl)] at hK
                        obtain ⟨r6, K6, ev6, u1⟩ := m_readsNumber hK
                        have eam : amT f L false p6 = ((nbT f L (p6 + 1)).1, (if sg = 45 then -(nbT f L (p6 + 1)).2.1 else (nbT f L (p6 + 1)).2.1), (nbT f L (p6 + 1)).2.2) := by
                          unfold amT
                          by_cases z : sg = 45
                          · rw [if_pos (s45.mp z), if_pos z]
                          · rw [if_neg (fun y => z (s45.mpr y)), if_neg (by decide), if_pos (s43.mp (hsg.resolve_left z)), if_neg z]
                        rw [eam] at est am
                        refine ia_walk (fun pc => Nat.beq pc 208) 90 (fun X hX => ?_)
                        rcases u1 with ⟨u1, u2, u3, u4⟩ | ⟨u1, u2, u3, p7, u4⟩
                        · subst u2
                          rw [if_pos u1] at est
                          conv => whnf
                          refine Exists.intro (_, _) (And.intro ev6 ?_)
                          conv => whnf
                          refine And.intro (fun c4 => ?_) (fun c4 => ?_)
                          · exact absurd (show (1 : Int32) = 0 from c4) (by decide)
                          · conv => whnf
                            refine And.intro (fun c5 => ?_) (fun c5 => ?_)
                            · have c5 : sg = 45 := c5
                              rw [if_pos c5] at est am
                              have lf := l_sfin u4 (by omega) gG j3 hgg ⟨am.2.2.1, am.2.2.2⟩ (some (.int (nI n))) (some (.int sg)) (Z := fun r H' => MS h f L d (stT f L n0 d pl) r H') (fun H' hH' => by rw [est]; exact Or.inl ⟨rfl, rfl, hH'⟩)
                              rw [← y4, ← w4, ← u3] at lf
                              conv => whnf
                              exact hX _ (lf)
                            · have c5 : ¬ sg = 45 := c5
                              rw [if_neg c5] at est am
                              have lf := l_sfin u4 (by omega) gG j3 hgg ⟨am.2.2.1, am.2.2.2⟩ (some (.int (nI n))) (some (.int sg)) (Z := fun r H' => MS h f L d (stT f L n0 d pl) r H') (fun H' hH' => by rw [est]; exact Or.inl ⟨rfl, rfl, hH'⟩)
                              rw [← y4, ← w4, ← u3] at lf
                              conv => whnf
                              exact hX _ (lf)
                        · subst u2
                          rw [if_neg u1] at est
                          conv => whnf
                          refine Exists.intro (_, _) (And.intro ev6 ?_)
                          conv => whnf
                          refine And.intro (fun c4 => ?_) (fun c4 => ?_)
                          · conv => whnf
                            rw [est]
                            exact ⟨Or.inl rfl, Or.inr ⟨u1, rfl, u3, _, p7, u4, tdX_t n1 k1⟩⟩
                          · exact absurd rfl c4
                      conv => whnf
                      refine Exists.intro (_, _) (And.intro ev5 ?_)
                      conv => whnf
                      refine And.intro (fun c4 => ?_) (fun c4 => ?_)
                      · exact absurd (show (1 : Int32) = 0 from c4) (by decide)
                      · conv => whnf
                        refine Exists.intro (_, _) (And.intro (ia_callE (vn6)) ?_)
                        conv => whnf
                        refine And.intro (fun c5 => ?_) (fun c5 => ?_)
                        · have c5 : sg = 43 := c5
                          conv => whnf
                          exact hX _ (tail (Or.inr c5))
                        · have c5 : ¬ sg = 43 := c5
                          conv => whnf
                          refine And.intro (fun c6 => ?_) (fun c6 => ?_)
                          · have c6 : sg = 45 := c6
                            conv => whnf
                            exact hX _ (tail (Or.inl c6))
                          · have c6 : ¬ sg = 45 := c6
                            have eam : amT f L false p6 = (0, 0, p6) := by
                              unfold amT
                              rw [if_neg (fun y => c6 (s45.mpr y)), if_neg (by decide), if_neg (fun y => c5 (s43.mpr y))]
                            rw [eam, if_pos rfl] at est
                            have lf := l_sfin hm6 (by omega) gG j3 hgg (m := 0) (by decide) (some (.int (nI n))) (some (.int sg)) (Z := fun r H' => MS h f L d (stT f L n0 d pl) r H') (fun H' hH' => by rw [est]; exact Or.inl ⟨rfl, rfl, hH'⟩)
                            rw [← y4, ← w4] at lf
                            conv => whnf
                            exact hX _ (lf)
                    · exact absurd w1 j0
                  · subst w3
                    conv => whnf
                    refine Exists.intro (_, _) (And.intro ev5 ?_)
                    conv => whnf
                    refine And.intro (fun c4 => ?_) (fun c4 => ?_)
                    · conv => whnf
                      refine ⟨Or.inl rfl, ?_⟩
                      by_cases j0 : nm2.1 = 0
                      · have j1 : nm2.2.1 = nI g := Classical.not_not.mp (fun z => w1 ⟨j0, z⟩)
                        rw [if_pos j0, if_pos j1] at est
                        rw [if_pos j0] at w4
                        rw [est]
                        exact Or.inr ⟨by show ¬ 8 * p4 + 4 = 0; omega, rfl, w4, _, _, w5, tdX_t n1 k1⟩
                      · rw [if_neg j0] at est w4
                        rw [est]
                        exact Or.inr ⟨j0, rfl, w4, _, _, w5, tdX_t n1 k1⟩
                    · exact absurd rfl c4
            · have x1 : ¬ isS f L 61 (bl f L nm.2.2.2) = true := x1
              subst x2
              rw [if_neg x1] at est
              conv => whnf
              refine Exists.intro (_, _) (And.intro ev2 ?_)
              conv => whnf
              refine And.intro (fun c2 => ?_) (fun c2 => ?_)
              · conv => whnf
                have evf := ia_callE (m_fails K2 (pl := bl f L nm.2.2.2) (w := 1))
                rw [← x3.2.1.2.2.2.1] at evf
                refine Exists.intro (_, _) (And.intro evf ?_)
                conv => whnf
                rw [est]
                exact ⟨Or.inl rfl, Or.inr ⟨by show ¬ 8 * bl f L nm.2.2.2 + 1 = 0; omega, rfl, rfl, _, _, MR_wr x3 _, n1⟩⟩
              · exact absurd rfl c2
        · exact absurd y1 m0
      · subst y3
        rcases n7 with ⟨m0, g, m1, m2, m3⟩ | ⟨m0, m1⟩
        · have oG2 := n2.2.1
          exact absurd ⟨m0, fun z => nI_nm1 (show g < 2 ^ 31 by omega) (m1.symm.trans z)⟩ y1
        · rw [if_neg m0] at est y4
          refine ia_walk (fun _ => false) 90 (fun X hX => ?_)
          conv => whnf
          refine Exists.intro (_, _) (And.intro ev1 ?_)
          conv => whnf
          refine And.intro (fun c1 => ?_) (fun c1 => ?_)
          · conv => whnf
            rw [est]
            exact ⟨Or.inl rfl, Or.inr ⟨m0, rfl, y4, _, _, y5, n1⟩⟩
          · exact absurd rfl c1
    conv => whnf
    refine And.intro (fun c1 => ?_) (fun c1 => ?_)
    · have c1 : nI n = 12 := c1
      have : n = 12 := nI_inj (b := 12) (by omega) (by omega) c1
      conv => whnf
      exact hX _ (full (by omega))
    · have c1 : ¬ nI n = 12 := c1
      have hn2 : ¬ n = 12 := fun z => c1 (by rw [z]; rfl)
      conv => whnf
      refine And.intro (fun c2 => ?_) (fun c2 => ?_)
      · have c2 : (hAt H p1).1 52 15 = 120 := c2
        rw [e15] at c2
        have : tdN d = 120 := nI_inj (b := 120) (by omega) (by omega) c2
        conv => whnf
        exact hX _ (full (by omega))
      · have c2 : ¬ (hAt H p1).1 52 15 = 120 := c2
        rw [e15] at c2
        have : ¬ tdN d = 120 := fun z => c2 (by rw [z]; rfl)
        conv => whnf
        exact hX _ (main (by omega))
