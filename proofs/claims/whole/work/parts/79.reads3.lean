/-! Reader of the class: statements, texts -/
theorem v_pass {h H : ia_H} {L pl : Nat} {d : tdT} (hb : ∀ i, i < L → byR (h.1 3 i)) (hc : CR h H L d pl 0) {c : Nat} (hc128 : c < 128) : V_ 22 [.ref 1, .int (nI c)] H (fun r H' => r = none ∧ ((isS (h.1 3) L (nI c) (bl (h.1 3) L pl) = true ∧ CR h H' L d (bl (h.1 3) L pl + 1) 0) ∨ (¬ isS (h.1 3) L (nI c) (bl (h.1 3) L pl) = true ∧ CR h H' L d (bl (h.1 3) L pl) (nI (8 * bl (h.1 3) L pl + 1))))) := by
  have ef := CR_f hc
  obtain ⟨b1, b2⟩ : pl ≤ bl (h.1 3) L pl ∧ bl (h.1 3) L pl ≤ L := rn_le (isS (h.1 3) L 32) hc.2.1.2.1
  have vb := v_pB hc.2.1
  rw [ef] at vb
  have hc1 := CR_pl hc b2
  have vh := v_here hc1.2.1
  rw [CR_f hc1] at vh
  have hs := hr_s hb (j := bl (h.1 3) L pl) hc128
  generalize hB : bl (h.1 3) L pl = p4 at *
  have e22 : (hPl H p4).1 2 2 = nI p4 := rfl
  refine ia_V_in ia_k_X3_pass [some (.ref 1), some (.int (nI c))] rfl rfl (Nat.le_of_ble_eq_true rfl) rfl ?_
  refine ia_walk (fun _ => false) 90 (fun X hX => ?_)
  conv => whnf
  refine Exists.intro (_, _) (And.intro (ia_callE (vb)) ?_)
  conv => whnf
  obtain ⟨v, ev, ev'⟩ := ia_callN vh
  refine Exists.intro (_, _) (And.intro ev' ?_)
  clear ev'
  conv => whnf
  refine And.intro (fun q => ?_) (fun q => ?_)
  · have q : v = nI c := q
    have q2 := hs.mp (ev.symm.trans q)
    conv => whnf
    refine ⟨rfl, Or.inl ⟨q2, ?_⟩⟩
    have := CR_pl hc1 (q := p4 + 1) (isS_lt q2)
    rw [← pl_u e22] at this
    exact this
  · have q : ¬ v = nI c := q
    have q2 : ¬ isS (h.1 3) L (nI c) p4 = true := fun z => q (ev.trans (hs.mpr z))
    conv => whnf
    have evf := ia_callE (v_fail (hPl H p4) (pl := p4) (w := 1))
    have e13 : (hPl H p4).1 1 3 = 0 := hc.2.2.2.2.1
    have eft : ftF ((hPl H p4).1 1 3) (8 * p4 + 1) = nI (8 * p4 + 1) := by unfold ftF; rw [if_pos e13]
    rw [eft] at evf
    refine Exists.intro (_, _) (And.intro evf ?_)
    conv => whnf
    exact ⟨rfl, Or.inr ⟨q2, CR_ft hc1 _⟩⟩
theorem v_isFull {h H : ia_H} {L pl : Nat} {d : tdT} {ft : Int32} (hc : CR h H L d pl ft) {n0 : Nat} (e0 : h.1 4 7 = nI n0) (hn : n0 ≤ tdN d) : V_ 23 [.ref 1, .ref 4] H (Z_ (.int (oI (decide (120 ≤ tdN d ∨ 12 ≤ tdN d - n0)))) H) := by
  have e12 := hc.2.2.2.1
  have o3 := hc.2.2.2.2.2.2.2.2.2.1
  have e47 : H.1 4 7 = nI n0 := by rw [hc.1.1 4 (by decide) (by decide) (by decide)]; exact e0
  have esub : H.1 1 2 - H.1 4 7 = nI (tdN d - n0) := by
    rw [e12, e47]
    have e2 : nI (tdN d) = nI (tdN d - n0) + nI n0 := by rw [nI_add]; congr 1; omega
    rw [e2]
    exact Int32.add_sub_cancel _ _
  refine ia_V_in ia_k_X3_isFull [some (.ref 1), some (.ref 4)] rfl rfl (Nat.le_of_ble_eq_true rfl) rfl ?_
  refine ia_walk (fun _ => false) 90 (fun X hX => ?_)
  conv => whnf
  refine And.intro (fun q => ?_) (fun q => ?_)
  · have q : H.1 1 2 < 120 := q
    rw [e12] at q
    have q := (nI_lt120 (by omega)).mp q
    conv => whnf
    refine And.intro (fun q2 => ?_) (fun q2 => ?_)
    · have q2 : H.1 1 2 - H.1 4 7 < 12 := q2
      rw [esub] at q2
      have q2 := (nI_ltI (b := 12) (by omega) (by decide)).mp q2
      conv => whnf
      exact ⟨Or.inl rfl, by rw [decide_eq_false (by omega)]; rfl, rfl⟩
    · have q2 : ¬ H.1 1 2 - H.1 4 7 < 12 := q2
      rw [esub] at q2
      have q2 : ¬ tdN d - n0 < 12 := fun z => q2 (nI_lt (b := 12) z (by omega))
      conv => whnf
      exact ⟨Or.inr rfl, by rw [decide_eq_true (by omega)]; rfl, rfl⟩
  · have q : ¬ H.1 1 2 < 120 := q
    rw [e12] at q
    have q : ¬ tdN d < 120 := fun z => q ((nI_lt120 (by omega)).mpr z)
    conv => whnf
    exact ⟨Or.inr rfl, by rw [decide_eq_true (by omega)]; rfl, rfl⟩
theorem nm_let {f : Nat → Int32} {L : Nat} {d : tdT} {pl : Nat} (h : (nmT f L d pl).1 = 0) : isLt f L pl = true := by
  cases hq : isLt f L pl
  · unfold nmT at h
    rw [if_pos (rn_f hq)] at h
    have h : 8 * pl + 1 = 0 := h
    omega
  · rfl
theorem rs_ok {f : Nat → Int32} {L : Nat} {d : tdT} {one p : Nat} (hok : tdOk d) (hL : L ≤ 300) (hp : p ≤ L) (hn : tdN d < 120) (h1 : 1 ≤ one) (ho : one < tdG d) : tdX d (rsT f L d one p).2.1 ∧ tdOk (rsT f L d one p).2.1 ∧ (rsT f L d one p).1 ≤ 8 * L + 4 ∧ ((rsT f L d one p).1 = 0 → tdN (rsT f L d one p).2.1 = tdN d + 1 ∧ (rsT f L d one p).2.2 ≤ L) := by
  obtain ⟨b1, b2⟩ : p ≤ bl f L p ∧ bl f L p ≤ L := rn_le (isS f L 32) hp
  obtain ⟨n1, n2, n3, n4, n5, n6, n7⟩ := nm_ok (f := f) hok hL b2
  have oG := hok.2.1
  have oG2 := n2.2.1
  obtain ⟨d1, d2⟩ : (nmT f L d (bl f L p)).2.2.2 ≤ bl f L (nmT f L d (bl f L p)).2.2.2 ∧ bl f L (nmT f L d (bl f L p)).2.2.2 ≤ L := rn_le (isS f L 32) n5
  obtain ⟨a1, a2, a3, a4⟩ := am_ok (f := f) (b := false) d2
  obtain ⟨c1, c2, c3, c4⟩ := am_ok (f := f) (b := true) b2
  unfold rsT
  by_cases q1 : isLt f L (bl f L p) = true
  · rw [if_pos q1]
    by_cases q2 : (nmT f L d (bl f L p)).1 = 0
    · rw [if_pos q2]
      rcases n7 with ⟨m0, g, m1, m2, m3⟩ | ⟨m0, m1⟩
      · by_cases q3 : (nmT f L d (bl f L p)).2.1 = nI one
        · rw [if_pos q3]
          exact ⟨n1, n2, by show 8 * bl f L p + 4 ≤ _; omega, fun z => by have z : 8 * bl f L p + 4 = 0 := z; omega⟩
        · rw [if_neg q3]
          by_cases q4 : (amT f L false (bl f L (nmT f L d (bl f L p)).2.2.2)).1 = 0
          · rw [if_pos q4]
            refine ⟨tdX_t n1 (stAdd_X _ _ _ _), stAdd_ok n2 (by omega) (Nat.lt_of_lt_of_le ho n1.1) (by rw [m1, toN g (by omega)]; exact m3) (fun z => q3 ?_) ⟨a3, a4⟩, by show 0 ≤ _; omega, fun _ => ⟨by show tdN _ + 1 = _; omega, a1⟩⟩
            rw [z, m1, toN g (by omega)]
          · rw [if_neg q4]
            exact ⟨n1, n2, by show (amT f L false _).1 ≤ _; omega, fun z => absurd z q4⟩
      · exact absurd q2 m0
    · rw [if_neg q2]
      exact ⟨n1, n2, by show (nmT f L d _).1 ≤ _; omega, fun z => absurd z q2⟩
  · rw [if_neg q1]
    by_cases q4 : (amT f L true (bl f L p)).1 = 0
    · rw [if_pos q4]
      exact ⟨stAdd_X _ _ _ _, stAdd_ok hok hn ho (by omega) (by omega) ⟨c3, c4⟩, by show 0 ≤ _; omega, fun _ => ⟨rfl, c1⟩⟩
    · rw [if_neg q4]
      exact ⟨tdX_r d, hok, by show (amT f L true _).1 ≤ _; omega, fun z => absurd z q4⟩
theorem st_ok {f : Nat → Int32} {L n0 : Nat} {d : tdT} {pl : Nat} (hok : tdOk d) (hL : L ≤ 300) (hp : pl ≤ L) : tdX d (stT f L n0 d pl).2.1 ∧ tdOk (stT f L n0 d pl).2.1 ∧ (stT f L n0 d pl).1 ≤ 8 * L + 5 ∧ ((stT f L n0 d pl).1 = 0 → tdN (stT f L n0 d pl).2.1 = tdN d + 1 ∧ (stT f L n0 d pl).2.2 ≤ L ∧ tdN d < 120 ∧ tdN d - n0 < 12) := by
  obtain ⟨b1, b2⟩ : pl ≤ bl f L pl ∧ bl f L pl ≤ L := rn_le (isS f L 32) hp
  obtain ⟨n1, n2, n3, n4, n5, n6, n7⟩ := nm_ok (f := f) hok hL b2
  have oG2 := n2.2.1
  obtain ⟨d1, d2⟩ : (nmT f L d (bl f L pl)).2.2.2 ≤ bl f L (nmT f L d (bl f L pl)).2.2.2 ∧ bl f L (nmT f L d (bl f L pl)).2.2.2 ≤ L := rn_le (isS f L 32) n5
  unfold stT
  by_cases q0 : isLt f L (bl f L pl) = true ∧ (120 ≤ tdN d ∨ 12 ≤ tdN d - n0)
  · rw [if_pos q0]
    exact ⟨tdX_r d, hok, by show 8 * bl f L pl + 5 ≤ _; omega, fun z => by have z : 8 * bl f L pl + 5 = 0 := z; omega⟩
  · rw [if_neg q0]
    by_cases q1 : (nmT f L d (bl f L pl)).1 = 0
    · rw [if_pos q1]
      have hl := nm_let q1
      have hn : tdN d < 120 ∧ tdN d - n0 < 12 := by
        apply Classical.byContradiction
        intro z
        exact q0 ⟨hl, by omega⟩
      by_cases q2 : isS f L 61 (bl f L (nmT f L d (bl f L pl)).2.2.2) = true
      · rw [if_pos q2]
        rcases n7 with ⟨m0, g, m1, m2, m3⟩ | ⟨m0, m1⟩
        · rw [m1, toN g (by omega)]
          obtain ⟨r1, r2, r3, r4⟩ := rs_ok (f := f) (one := g) (p := bl f L (nmT f L d (bl f L pl)).2.2.2 + 1) n2 hL (isS_lt q2) (by omega) m2 m3
          refine ⟨tdX_t n1 r1, r2, by omega, fun z => ⟨?_, (r4 z).2, hn.1, hn.2⟩⟩
          rw [(r4 z).1, n3]
        · exact absurd q1 m0
      · rw [if_neg q2]
        exact ⟨n1, n2, by show 8 * bl f L _ + 1 ≤ _; omega, fun z => by have z : 8 * bl f L (nmT f L d (bl f L pl)).2.2.2 + 1 = 0 := z; omega⟩
    · rw [if_neg q1]
      exact ⟨n1, n2, by show (nmT f L d _).1 ≤ _; omega, fun z => absurd z q1⟩
theorem v_st {h H : ia_H} {L pl : Nat} {d : tdT} (hb : ∀ i, i < L → byR (h.1 3 i)) (hc : CR h H L d pl 0) {n0 : Nat} (e0 : h.1 4 7 = nI n0) (hn : n0 ≤ tdN d) : V_ 24 [.ref 1, .ref 4] H (fun r H' => r = none ∧ RS h L ((stT (h.1 3) L n0 d pl).1, (stT (h.1 3) L n0 d pl).2.1, bl (h.1 3) L (stT (h.1 3) L n0 d pl).2.2) H') := by
  have ef := CR_f hc
  have hL := hc.2.1.1
  have hok := hc.2.2.2.2.2.2.2
  have oG := hok.2.1
  obtain ⟨s1, s2, s3, s4⟩ := st_ok (f := h.1 3) (n0 := n0) hok hL hc.2.1.2.1
  obtain ⟨b1, b2⟩ : pl ≤ bl (h.1 3) L pl ∧ bl (h.1 3) L pl ≤ L := rn_le (isS (h.1 3) L 32) hc.2.1.2.1
  have vb := v_pB hc.2.1
  rw [ef] at vb
  have hc1 := CR_pl hc b2
  have vl := v_isLet hc1.2.1
  rw [CR_f hc1] at vl
  have vfu := v_isFull hc1 e0 hn
  obtain ⟨n1, n2, n3, n4, n5, n6, n7⟩ := nm_ok (f := h.1 3) hok hL b2
  obtain ⟨r1, K1, evn, z1, z2⟩ := v_readName hc1
  have est : stT (h.1 3) L n0 d pl = stT (h.1 3) L n0 d pl := rfl
  conv at est => rhs; unfold stT
  generalize hB : bl (h.1 3) L pl = p1 at *
  generalize hN : nmT (h.1 3) L d p1 = nm at *
  subst z1
  have oG2 := n2.2.1
  obtain ⟨d1, d2⟩ : nm.2.2.2 ≤ bl (h.1 3) L nm.2.2.2 ∧ bl (h.1 3) L nm.2.2.2 ≤ L := rn_le (isS (h.1 3) L 32) n5
  -- the last blanks
  have fin : ∀ (K : ia_H) (res : Nat × tdT × Nat) (a2 : Option Value), RS h L res K → (res.1 = 0 → res.2.2 = (stT (h.1 3) L n0 d pl).2.2) → res.1 = (stT (h.1 3) L n0 d pl).1 → res.2.1 = (stT (h.1 3) L n0 d pl).2.1 → R_ ia_k_X3_readStatement (fun r H' => r = none ∧ RS h L ((stT (h.1 3) L n0 d pl).1, (stT (h.1 3) L n0 d pl).2.1, bl (h.1 3) L (stT (h.1 3) L n0 d pl).2.2) H') (70, [some (.ref 1), some (.ref 4), a2], [], K) := by
    intro K res a2 hK h1 h2 h3
    obtain ⟨pk, k1, k2, k3⟩ := hK
    have vb4 := v_pB k2.2.1
    rw [CR_f k2] at vb4
    obtain ⟨f1, f2⟩ : pk ≤ bl (h.1 3) L pk ∧ bl (h.1 3) L pk ≤ L := rn_le (isS (h.1 3) L 32) k1
    refine ia_walk (fun _ => false) 60 (fun X hX => ?_)
    conv => whnf
    refine Exists.intro (_, _) (And.intro (ia_callE (vb4)) ?_)
    conv => whnf
    refine ⟨rfl, bl (h.1 3) L pk, f2, ?_, fun z => ?_⟩
    · have := CR_pl k2 f2
      rw [h2, h3] at this
      exact this
    · have z : (stT (h.1 3) L n0 d pl).1 = 0 := z
      show bl (h.1 3) L pk = bl (h.1 3) L (stT (h.1 3) L n0 d pl).2.2
      rw [k3 (by rw [h2]; exact z), h1 (by rw [h2]; exact z)]
  -- from the name on
  have main : ¬ (isLt (h.1 3) L p1 = true ∧ (120 ≤ tdN d ∨ 12 ≤ tdN d - n0)) → R_ ia_k_X3_readStatement (fun r H' => r = none ∧ RS h L ((stT (h.1 3) L n0 d pl).1, (stT (h.1 3) L n0 d pl).2.1, bl (h.1 3) L (stT (h.1 3) L n0 d pl).2.2) H') (38, [some (.ref 1), some (.ref 4), none], [], hPl H p1) := by
    intro q0
    rw [if_neg q0] at est
    refine ia_walk (fun pc => Nat.beq pc 70) 90 (fun X hX => ?_)
    conv => whnf
    refine Exists.intro (_, _) (And.intro evn ?_)
    have e13 : K1.1 1 3 = nI nm.1 := z2.2.2.2.2.1
    rcases n7 with ⟨m0, g, m1, m2, m3⟩ | ⟨m0, m1⟩
    · rw [if_pos m0] at est
      have hl : isLt (h.1 3) L p1 = true := nm_let (d := d) (by rw [hN]; exact m0)
      have hn2 : tdN d < 120 := by
        apply Classical.byContradiction
        intro z
        exact q0 ⟨hl, by omega⟩
      rw [m0] at z2
      conv => whnf
      refine And.intro (fun w => ?_) (fun w => ?_)
      · conv => whnf
        obtain ⟨r3, K3, ev3, y1, y2⟩ := v_pass hb z2 (c := 61) (by decide)
        subst y1
        refine Exists.intro (_, _) (And.intro ev3 ?_)
        rcases y2 with ⟨y2, y3⟩ | ⟨y2, y3⟩
        · have y2 : isS (h.1 3) L 61 (bl (h.1 3) L nm.2.2.2) = true := y2
          rw [if_pos y2] at est
          have e13b : K3.1 1 3 = 0 := y3.2.2.2.2.1
          conv => whnf
          refine And.intro (fun w2 => ?_) (fun w2 => ?_)
          · obtain ⟨r4, K4, ev4, x1, x2⟩ := v_rs hb y3 (by omega) m2 m3
            subst x1
            conv => whnf
            rw [← m1] at ev4
            refine Exists.intro (_, _) (And.intro ev4 ?_)
            rw [m1, toN g (by omega)] at est
            conv => whnf
            exact hX _ (fin K4 _ _ x2 (fun _ => by rw [est]) (by rw [est]) (by rw [est]))
          · exact absurd e13b w2
        · have y2 : ¬ isS (h.1 3) L 61 (bl (h.1 3) L nm.2.2.2) = true := y2
          rw [if_neg y2] at est
          have e13b : K3.1 1 3 = nI (8 * bl (h.1 3) L nm.2.2.2 + 1) := y3.2.2.2.2.1
          conv => whnf
          refine And.intro (fun w2 => ?_) (fun w2 => ?_)
          · have := (nI_z (by omega)).mp (e13b.symm.trans (show K3.1 1 3 = 0 from w2))
            omega
          · have hr : RS h L (8 * bl (h.1 3) L nm.2.2.2 + 1, nm.2.2.1, p1) K3 := ⟨_, y3.2.1.2.1, y3, fun z => by have z : 8 * bl (h.1 3) L nm.2.2.2 + 1 = 0 := z; omega⟩
            conv => whnf
            exact hX _ (fin K3 _ _ hr (fun _ => by rw [est]) (by rw [est]) (by rw [est]))
      · exact absurd (show K1.1 1 3 = 0 by rw [e13, m0]; rfl) w
    · rw [if_neg m0] at est
      have hr : RS h L (nm.1, nm.2.2.1, p1) K1 := ⟨_, z2.2.1.2.1, z2, fun z => absurd z m0⟩
      have hne : ¬ K1.1 1 3 = 0 := fun z => m0 ((nI_z (by omega)).mp (e13.symm.trans z))
      conv => whnf
      refine And.intro (fun w => ?_) (fun w => ?_)
      · exact absurd w hne
      · conv => whnf
        refine And.intro (fun w2 => ?_) (fun w2 => ?_)
        · exact absurd w2 hne
        · conv => whnf
          exact hX _ (fin K1 _ _ hr (fun _ => by rw [est]) (by rw [est]) (by rw [est]))
  refine ia_V_in ia_k_X3_readStatement [some (.ref 1), some (.ref 4), none] rfl rfl (Nat.le_of_ble_eq_true rfl) rfl ?_
  refine ia_walk (fun pc => Nat.beq pc 38) 90 (fun X hX => ?_)
  conv => whnf
  refine Exists.intro (_, _) (And.intro (ia_callE (vb)) ?_)
  conv => whnf
  obtain ⟨v, ev, ev'⟩ := ia_callN vl
  refine Exists.intro (_, _) (And.intro ev' ?_)
  clear ev'
  conv => whnf
  refine And.intro (fun q1 => ?_) (fun q1 => ?_)
  · have q : isLt (h.1 3) L p1 = false := oI_0.mp (ev.symm.trans q1)
    conv => whnf
    exact hX _ (main (fun z => by rw [q] at z; exact absurd z.1 (by decide)))
  · have q : isLt (h.1 3) L p1 = true := by
      cases hq : isLt (h.1 3) L p1
      · rw [hq] at ev; exact absurd ev q1
      · rfl
    conv => whnf
    obtain ⟨v2, ev2, ev'⟩ := ia_callN vfu
    refine Exists.intro (_, _) (And.intro ev' ?_)
    clear ev'
    conv => whnf
    refine And.intro (fun q2 => ?_) (fun q2 => ?_)
    · have qf : ¬ (120 ≤ tdN d ∨ 12 ≤ tdN d - n0) := of_decide_eq_false (oI_0.mp (ev2.symm.trans q2))
      conv => whnf
      exact hX _ (main (fun z => qf z.2))
    · have qf : 120 ≤ tdN d ∨ 12 ≤ tdN d - n0 := by
        apply Classical.byContradiction
        intro z
        rw [decide_eq_false z] at ev2
        exact q2 ev2
      rw [if_pos ⟨q, qf⟩] at est
      conv => whnf
      have evf := ia_callE (v_fail (hPl H p1) (pl := p1) (w := 5))
      have e13 : (hPl H p1).1 1 3 = 0 := hc.2.2.2.2.1
      have eft : ftF ((hPl H p1).1 1 3) (8 * p1 + 5) = nI (8 * p1 + 5) := by unfold ftF; rw [if_pos e13]
      rw [eft] at evf
      refine Exists.intro (_, _) (And.intro evf ?_)
      conv => whnf
      rw [est]
      exact ⟨rfl, p1, b2, CR_ft hc1 _, fun z => by have z : 8 * p1 + 5 = 0 := z; omega⟩
/-- a text, statement by statement -/
def txT (f : Nat → Int32) (L n0 : Nat) : Nat → tdT → Nat → Nat × tdT
  | 0, d, _ => (0, d)
  | k + 1, d, pl => if (stT f L n0 d pl).1 = 0 then (if bl f L (stT f L n0 d pl).2.2 < L then (if isS f L 59 (bl f L (stT f L n0 d pl).2.2) = true then txT f L n0 k (stT f L n0 d pl).2.1 (bl f L (stT f L n0 d pl).2.2 + 1) else (8 * bl f L (stT f L n0 d pl).2.2 + 1, (stT f L n0 d pl).2.1)) else (0, (stT f L n0 d pl).2.1)) else ((stT f L n0 d pl).1, (stT f L n0 d pl).2.1)
/-- one statement alone -/
def loT (f : Nat → Int32) (L : Nat) (t : tdT) : Nat × tdT := if (stT f L (tdN t) t 0).1 = 0 then (if bl f L (stT f L (tdN t) t 0).2.2 < L then (8 * bl f L (stT f L (tdN t) t 0).2.2 + 1, (stT f L (tdN t) t 0).2.1) else (0, (stT f L (tdN t) t 0).2.1)) else ((stT f L (tdN t) t 0).1, (stT f L (tdN t) t 0).2.1)
theorem tx_ok {f : Nat → Int32} {L n0 : Nat} (hL : L ≤ 300) : ∀ {k : Nat} {d : tdT} {pl : Nat}, tdOk d → pl ≤ L → tdX d (txT f L n0 k d pl).2 ∧ tdOk (txT f L n0 k d pl).2 ∧ (txT f L n0 k d pl).1 ≤ 8 * L + 5
  | 0, d, pl, hok, hp => ⟨tdX_r d, hok, by show 0 ≤ _; omega⟩
  | k + 1, d, pl, hok, hp => by
    obtain ⟨s1, s2, s3, s4⟩ := st_ok (f := f) (n0 := n0) hok hL hp
    rw [txT]
    by_cases q1 : (stT f L n0 d pl).1 = 0
    · rw [if_pos q1]
      obtain ⟨b1, b2⟩ : (stT f L n0 d pl).2.2 ≤ bl f L (stT f L n0 d pl).2.2 ∧ bl f L (stT f L n0 d pl).2.2 ≤ L := rn_le (isS f L 32) (s4 q1).2.1
      by_cases q2 : bl f L (stT f L n0 d pl).2.2 < L
      · rw [if_pos q2]
        by_cases q3 : isS f L 59 (bl f L (stT f L n0 d pl).2.2) = true
        · rw [if_pos q3]
          obtain ⟨i1, i2, i3⟩ := tx_ok (f := f) (n0 := n0) hL (k := k) (d := (stT f L n0 d pl).2.1) (pl := bl f L (stT f L n0 d pl).2.2 + 1) s2 q2
          exact ⟨tdX_t s1 i1, i2, i3⟩
        · rw [if_neg q3]
          exact ⟨s1, s2, by show 8 * bl f L _ + 1 ≤ _; omega⟩
      · rw [if_neg q2]
        exact ⟨s1, s2, by show 0 ≤ _; omega⟩
    · rw [if_neg q1]
      exact ⟨s1, s2, s3⟩
theorem lo_ok {f : Nat → Int32} {L : Nat} {t : tdT} (hL : L ≤ 300) (hok : tdOk t) : tdX t (loT f L t).2 ∧ tdOk (loT f L t).2 ∧ (loT f L t).1 ≤ 8 * L + 5 ∧ ((loT f L t).1 = 0 → tdN (loT f L t).2 = tdN t + 1 ∧ tdN t < 120) := by
  obtain ⟨s1, s2, s3, s4⟩ := st_ok (f := f) (n0 := tdN t) (pl := 0) hok hL (Nat.zero_le L)
  unfold loT
  by_cases q1 : (stT f L (tdN t) t 0).1 = 0
  · rw [if_pos q1]
    obtain ⟨b1, b2⟩ : (stT f L (tdN t) t 0).2.2 ≤ bl f L (stT f L (tdN t) t 0).2.2 ∧ bl f L (stT f L (tdN t) t 0).2.2 ≤ L := rn_le (isS f L 32) (s4 q1).2.1
    by_cases q2 : bl f L (stT f L (tdN t) t 0).2.2 < L
    · rw [if_pos q2]
      exact ⟨s1, s2, by show 8 * bl f L _ + 1 ≤ _; omega, fun z => by have z : 8 * bl f L (stT f L (tdN t) t 0).2.2 + 1 = 0 := z; omega⟩
    · rw [if_neg q2]
      exact ⟨s1, s2, by show 0 ≤ _; omega, fun _ => ⟨(s4 q1).1, (s4 q1).2.2.1⟩⟩
  · rw [if_neg q1]
    exact ⟨s1, s2, s3, fun z => absurd z q1⟩
theorem v_begin {h : ia_H} {t : tdT} {L : Nat} (hok : tdOk t) (hr : cRep h 4 t) (hl : ltB h 4) (hL : L ≤ 300) (e1 : h.1 2 1 = nI L) : V_ 20 [.ref 1, .ref 4] h (fun r H' => r = none ∧ CR h H' L t 0 0) := by
  refine ia_V_in ia_k_X3_begin [some (.ref 1), some (.ref 4)] rfl rfl (Nat.le_of_ble_eq_true rfl) rfl ?_
  refine ia_walk (fun _ => false) 60 (fun X hX => ?_)
  conv => whnf
  refine ⟨rfl, ⟨fun y h1 h2 h3 => ?_, fun _ _ => rfl⟩, ⟨hL, Nat.zero_le _, e1, rfl⟩, hr.1, hr.2.1, rfl, hr.2.2, hl, hok⟩
  show (if y = 1 then _ else if y = 1 then _ else if y = 1 then _ else if y = 2 then _ else h.1 y) = _
  rw [if_neg h1, if_neg h1, if_neg h1, if_neg h2]
theorem l_tx {h : ia_H} {L n0 : Nat} (hb : ∀ i, i < L → byR (h.1 3 i)) (hL : L ≤ 300) (e0 : h.1 4 7 = nI n0) (Z : Option Value → ia_H → Prop) : ∀ (k n pl : Nat) (d : tdT) (H : ia_H), n + k = 13 → 1 ≤ k → tdN d = n0 + n → CR h H L d pl 0 → (∀ H' pl', CR h H' L (txT (h.1 3) L n0 k d pl).2 pl' (nI (txT (h.1 3) L n0 k d pl).1) → Z (some (.int (nI (txT (h.1 3) L n0 k d pl).1))) H') → R_ ia_k_X3_readText Z (7, [some (.ref 1), some (.ref 4), some (.int (nI n))], [], H) := by
  intro k
  induction k with
  | zero => intro n pl d H h1 h2; omega
  | succ k ih =>
    intro n pl d H hk _ hd hc hZ
    have hok := hc.2.2.2.2.2.2.2
    obtain ⟨s1, s2, s3, s4⟩ := st_ok (f := h.1 3) (n0 := n0) hok hL hc.2.1.2.1
    obtain ⟨r1, K1, ev1, z1, pk, z2, z3, z4⟩ := v_st hb hc e0 (by omega)
    subst z1
    have e13 : K1.1 1 3 = nI (stT (h.1 3) L n0 d pl).1 := z3.2.2.2.2.1
    have e13h : H.1 1 3 = 0 := hc.2.2.2.2.1
    have z3 : CR h K1 L (stT (h.1 3) L n0 d pl).2.1 pk (nI (stT (h.1 3) L n0 d pl).1) := z3
    rw [txT] at hZ
    have ih := ih (n + 1)
    generalize hS : stT (h.1 3) L n0 d pl = st at *
    refine ia_walk (fun pc => Nat.beq pc 7) 60 (fun X hX => ?_)
    conv => whnf
    refine And.intro (fun w0 => ?_) (fun w0 => ?_)
    · exact absurd (show (12 : Int32) < nI n from w0) (nI_nlt (a := 12) (by omega) (by omega))
    · conv => whnf
      refine And.intro (fun w1 => ?_) (fun w1 => ?_)
      · conv => whnf
        refine Exists.intro (_, _) (And.intro ev1 ?_)
        by_cases q1 : st.1 = 0
        · rw [if_pos q1] at hZ
          have z4 : pk = bl (h.1 3) L st.2.2 := z4 q1
          subst z4
          rw [q1] at z3
          conv => whnf
          refine And.intro (fun w2 => ?_) (fun w2 => ?_)
          · have vh := v_here z3.2.1
            rw [CR_f z3] at vh
            conv => whnf
            obtain ⟨v, ev, ev'⟩ := ia_callN vh
            refine Exists.intro (_, _) (And.intro ev' ?_)
            clear ev'
            have ho := hr_o hb (j := bl (h.1 3) L st.2.2)
            conv => whnf
            refine And.intro (fun w3 => ?_) (fun w3 => ?_)
            · have w3 : v = -1 := w3
              have q2 := ho.mp (ev.symm.trans w3)
              rw [if_neg q2] at hZ
              conv => whnf
              rw [show K1.1 1 3 = nI 0 by rw [e13, q1]]
              exact hZ K1 _ z3
            · have w3 : ¬ v = -1 := w3
              have q2 : bl (h.1 3) L st.2.2 < L := Classical.byContradiction (fun z => w3 (ev.trans (ho.mpr z)))
              rw [if_pos q2] at hZ
              conv => whnf
              obtain ⟨r5, K5, ev5, y1, y2⟩ := v_pass hb z3 (c := 59) (by decide)
              subst y1
              refine Exists.intro (_, _) (And.intro ev5 ?_)
              have hrr : bl (h.1 3) L (bl (h.1 3) L st.2.2) = bl (h.1 3) L st.2.2 := rn_rn (isS_o _ _ _) (s4 q1).2.1
              rw [hrr] at y2
              rcases y2 with ⟨y2, y3⟩ | ⟨y2, y3⟩
              · have y2 : isS (h.1 3) L 59 (bl (h.1 3) L st.2.2) = true := y2
                rw [if_pos y2] at hZ
                conv => whnf
                rw [nI_1]
                have hk1 : 1 ≤ k := by
                  have := (s4 q1).2.2.2
                  omega
                exact hX _ (ih _ _ K5 (by omega) hk1 (by rw [(s4 q1).1, hd]; omega) y3 hZ)
              · have y2 : ¬ isS (h.1 3) L 59 (bl (h.1 3) L st.2.2) = true := y2
                rw [if_neg y2] at hZ
                have e5 : K5.1 1 3 = nI (8 * bl (h.1 3) L st.2.2 + 1) := y3.2.2.2.2.1
                have hfin : R_ ia_k_X3_readText Z (60, [some (.ref 1), some (.ref 4), some (.int (nI (n + 1)))], [], K5) := by
                  refine ia_walk (fun _ => false) 60 (fun X hX => ?_)
                  conv => whnf
                  rw [e5]
                  exact hZ K5 _ y3
                have hlast : R_ ia_k_X3_readText Z (7, [some (.ref 1), some (.ref 4), some (.int (nI (n + 1)))], [], K5) := by
                  refine ia_walk (fun pc => Nat.beq pc 60) 60 (fun X hX => ?_)
                  conv => whnf
                  refine And.intro (fun u0 => ?_) (fun u0 => ?_)
                  · conv => whnf
                    exact hX _ (hfin)
                  · conv => whnf
                    refine And.intro (fun u1 => ?_) (fun u1 => ?_)
                    · have := (nI_z (by omega)).mp (e5.symm.trans (show K5.1 1 3 = 0 from u1))
                      omega
                    · conv => whnf
                      exact hX _ (hfin)
                conv => whnf
                rw [nI_1]
                exact hX _ hlast
          · exact absurd (show K1.1 1 3 = 0 by rw [e13, q1]; rfl) w2
        · rw [if_neg q1] at hZ
          conv => whnf
          refine And.intro (fun w2 => ?_) (fun w2 => ?_)
          · exact absurd ((nI_z (by omega)).mp (e13.symm.trans (show K1.1 1 3 = 0 from w2))) q1
          · conv => whnf
            rw [e13]
            exact hZ K1 _ z3
      · exact absurd e13h w1
theorem v_readText {h : ia_H} {t : tdT} {L : Nat} (hb : ∀ i, i < L → byR (h.1 3 i)) (hok : tdOk t) (hr : cRep h 4 t) (hl : ltB h 4) (hL : L ≤ 300) (e1 : h.1 2 1 = nI L) : V_ 18 [.ref 1, .ref 4] h (fun r H' => r = some (.int (nI (txT (h.1 3) L (tdN t) 13 t 0).1)) ∧ ∃ pl', CR h H' L (txT (h.1 3) L (tdN t) 13 t 0).2 pl' (nI (txT (h.1 3) L (tdN t) 13 t 0).1)) := by
  obtain ⟨r1, K1, ev1, z1, z2⟩ := v_begin hok hr hl hL e1
  subst z1
  refine ia_V_in ia_k_X3_readText [some (.ref 1), some (.ref 4), none] rfl rfl (Nat.le_of_ble_eq_true rfl) rfl ?_
  refine ia_walk (fun pc => Nat.beq pc 7) 60 (fun X hX => ?_)
  conv => whnf
  refine Exists.intro (_, _) (And.intro ev1 ?_)
  conv => whnf
  exact hX _ (l_tx hb hL hr.2.1 (fun r H' => r = some (.int (nI (txT (h.1 3) L (tdN t) 13 t 0).1)) ∧ ∃ pl', CR h H' L (txT (h.1 3) L (tdN t) 13 t 0).2 pl' (nI (txT (h.1 3) L (tdN t) 13 t 0).1)) 13 0 0 t K1 rfl (by decide) rfl z2 (fun H' pl' q => ⟨rfl, pl', q⟩))
theorem v_readLone {h : ia_H} {t : tdT} {L : Nat} (hb : ∀ i, i < L → byR (h.1 3 i)) (hok : tdOk t) (hr : cRep h 4 t) (hl : ltB h 4) (hL : L ≤ 300) (e1 : h.1 2 1 = nI L) : V_ 19 [.ref 1, .ref 4] h (fun r H' => r = some (.int (nI (loT (h.1 3) L t).1)) ∧ ∃ pl', CR h H' L (loT (h.1 3) L t).2 pl' (nI (loT (h.1 3) L t).1)) := by
  obtain ⟨r1, K1, ev1, z1, z2⟩ := v_begin hok hr hl hL e1
  subst z1
  obtain ⟨s1, s2, s3, s4⟩ := st_ok (f := h.1 3) (n0 := tdN t) (pl := 0) hok hL (Nat.zero_le L)
  obtain ⟨r2, K2, ev2, y1, pk, y2, y3, y4⟩ := v_st hb z2 hr.2.1 (Nat.le_refl _)
  subst y1
  have y3 : CR h K2 L (stT (h.1 3) L (tdN t) t 0).2.1 pk (nI (stT (h.1 3) L (tdN t) t 0).1) := y3
  have e13 : K2.1 1 3 = nI (stT (h.1 3) L (tdN t) t 0).1 := y3.2.2.2.2.1
  have elo : loT (h.1 3) L t = loT (h.1 3) L t := rfl
  conv at elo => rhs; unfold loT
  generalize hS : stT (h.1 3) L (tdN t) t 0 = st at *
  have vh := v_here y3.2.1
  rw [CR_f y3] at vh
  have ho := hr_o hb (j := pk)
  have e22 : K2.1 2 2 = nI pk := y3.2.1.2.2.2
  refine ia_V_in ia_k_X3_readLoneStatement [some (.ref 1), some (.ref 4)] rfl rfl (Nat.le_of_ble_eq_true rfl) rfl ?_
  refine ia_walk (fun _ => false) 60 (fun X hX => ?_)
  conv => whnf
  refine Exists.intro (_, _) (And.intro ev1 ?_)
  conv => whnf
  refine Exists.intro (_, _) (And.intro ev2 ?_)
  conv => whnf
  obtain ⟨v, ev, ev'⟩ := ia_callN vh
  refine Exists.intro (_, _) (And.intro ev' ?_)
  clear ev'
  conv => whnf
  refine And.intro (fun w => ?_) (fun w => ?_)
  · have w : v = -1 := w
    have q2 := ho.mp (ev.symm.trans w)
    conv => whnf
    rw [e13]
    by_cases q1 : st.1 = 0
    · have y4 : pk = bl (h.1 3) L st.2.2 := y4 q1
      rw [if_pos q1, if_neg (by rw [← y4]; exact q2)] at elo
      rw [elo]
      exact ⟨by rw [q1], pk, by rw [← q1]; exact y3⟩
    · rw [if_neg q1] at elo
      rw [elo]
      exact ⟨rfl, pk, y3⟩
  · have w : ¬ v = -1 := w
    have q2 : pk < L := Classical.byContradiction (fun z => w (ev.trans (ho.mpr z)))
    conv => whnf
    have evf := ia_callE (v_fail K2 (pl := pk) (w := 1))
    rw [← e22] at evf
    refine Exists.intro (_, _) (And.intro evf ?_)
    conv => whnf
    by_cases q1 : st.1 = 0
    · have y4 : pk = bl (h.1 3) L st.2.2 := y4 q1
      rw [if_pos q1, if_pos (by rw [← y4]; exact q2), ← y4] at elo
      have eft : ftF (K2.1 1 3) (8 * pk + 1) = nI (8 * pk + 1) := by
        unfold ftF
        rw [if_pos (by rw [e13, q1]; rfl)]
      rw [elo, eft]
      exact ⟨rfl, pk, CR_ft y3 _⟩
    · rw [if_neg q1] at elo
      have eft : ftF (K2.1 1 3) (8 * pk + 1) = nI st.1 := by
        unfold ftF
        rw [if_neg (fun z => q1 ((nI_z (by omega)).mp (e13.symm.trans z))), e13]
      rw [elo, eft]
      exact ⟨rfl, pk, CR_ft y3 _⟩
