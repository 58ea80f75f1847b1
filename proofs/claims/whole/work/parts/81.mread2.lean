/-! the reference reads names and numbers -/
theorem m_isNamed {H : ia_H} {f : Nat → Int32} {d : tdT} {pl len g : Nat} (hok : tdOk d) (hd : mDat H d) (h6 : len ≤ 6) (hly : lyOk H f pl len) (e0 : H.1 55 0 = nI len) (hcd : ∀ k, k < len → cd f (pl + k) ≤ 26) (g1 : 1 ≤ g) (g2 : g < tdG d) : V_ 107 [.ref 52, .int (nI g)] H (Z_ (.int (oI (nmB d f pl len g))) H) := by
  have oG := hok.2.1
  obtain ⟨o1, o2, o3⟩ := hok.2.2.2.1 g g1 g2
  obtain ⟨q1, q2⟩ := hd.1 g g1 g2
  have step : ∀ (k i : Nat), i + k = len → tdL d g = len → (∀ m, m < i → tdC d g m = cd f (pl + m)) → R_ ia_k_X8_isNamed (Z_ (.int (oI (nmB d f pl len g))) H) (2, [some (.ref 52), some (.int (nI g)), some (.int (nI (i + 1)))], [], H) := by
    intro k
    induction k with
    | zero =>
      intro i hk hl hm
      have hk : i = len := by omega
      refine ia_walk (fun pc => Nat.beq pc 2) 60 (fun X hX => ?_)
      conv => whnf
      refine Exists.intro 0 (And.intro (And.intro rfl (by decide)) ?_)
      conv => whnf
      refine And.intro (fun c => ?_) (fun c => ?_)
      · conv => whnf
        refine ⟨Or.inr rfl, ?_, rfl⟩
        rw [show nmB d f pl len g = true by
          unfold nmB
          rw [decide_eq_true hl, Bool.true_and, nmAl_iff]
          exact fun m h => hm m (by omega)]
        rfl
      · have c : ¬ H.1 55 0 < nI (i + 1) := c
        rw [e0] at c
        exact absurd (nI_lt (by omega) (by omega)) c
    | succ k ih =>
      intro i hk hl hm
      have i1 : (7 : Int32) * nI g + nI (i + 1) = nI (7 * g + (i + 1)) := ix2 (pk_mul 7 g)
      have w1 : H.1 54 (7 * g + (i + 1)) = nI (tdC d g i) := by
        rw [show 7 * g + (i + 1) = 7 * g + 1 + i by omega]
        exact q2 i (by omega)
      have w2 : H.1 55 (i + 1) = nI (cd f (pl + i)) := by
        rw [Nat.add_comm]
        exact hly i (by omega) (by omega)
      have o3i := o3 i (by omega)
      have hci := hcd i (by omega)
      refine ia_walk (fun pc => Nat.beq pc 2) 60 (fun X hX => ?_)
      conv => whnf
      refine Exists.intro 0 (And.intro (And.intro rfl (by decide)) ?_)
      conv => whnf
      refine And.intro (fun c => ?_) (fun c => ?_)
      · have c : H.1 55 0 < nI (i + 1) := c
        rw [e0] at c
        exact absurd c (nI_nlt (by omega) (by omega))
      · conv => whnf
        refine Exists.intro (7 * g + (i + 1)) (And.intro (And.intro (i1) (by omega)) ?_)
        conv => whnf
        refine Exists.intro _ (And.intro (And.intro rfl (by omega)) ?_)
        conv => whnf
        refine And.intro (fun c1 => ?_) (fun c1 => ?_)
        · have c1 : H.1 54 (7 * g + (i + 1)) = H.1 55 (i + 1) := c1
          rw [w1, w2] at c1
          have c1 := nI_inj (by omega) (by omega) c1
          conv => whnf
          rw [nI_1]
          exact hX _ (ih (i + 1) (by omega) hl (fun m hm2 => by
            by_cases e : m = i
            · rw [e]; exact c1
            · exact hm m (by omega)))
        · have c1 : ¬ H.1 54 (7 * g + (i + 1)) = H.1 55 (i + 1) := c1
          rw [w1, w2] at c1
          conv => whnf
          refine ⟨Or.inl rfl, ?_, rfl⟩
          rw [show nmB d f pl len g = false by
            cases hq : nmB d f pl len g
            · rfl
            · unfold nmB at hq
              rw [Bool.and_eq_true, nmAl_iff] at hq
              exact absurd (by rw [hq.2 i (by omega)]) c1]
          rfl
  have i0 : (7 : Int32) * nI g + 0 = nI (7 * g) := by rw [show (7 : Int32) * nI g = nI (7 * g) from pk_mul 7 g]; exact Int32.add_zero _
  refine ia_V_in ia_k_X8_isNamed [some (.ref 52), some (.int (nI g)), none] rfl rfl (Nat.le_of_ble_eq_true rfl) rfl ?_
  refine ia_walk (fun pc => Nat.beq pc 2) 60 (fun X hX => ?_)
  conv => whnf
  refine hX _ ?_
  refine ia_walk (fun pc => Nat.beq pc 2) 60 (fun X hX => ?_)
  conv => whnf
  refine Exists.intro 0 (And.intro (And.intro rfl (by decide)) ?_)
  conv => whnf
  refine And.intro (fun c => ?_) (fun c => ?_)
  · have c : H.1 55 0 < 0 := c
    rw [e0] at c
    exact absurd c (nI_pos (by omega))
  · conv => whnf
    refine Exists.intro (7 * g) (And.intro (And.intro (i0) (by omega)) ?_)
    conv => whnf
    refine Exists.intro 0 (And.intro (And.intro rfl (by decide)) ?_)
    conv => whnf
    refine And.intro (fun c1 => ?_) (fun c1 => ?_)
    · have c1 : H.1 54 (7 * g) = H.1 55 0 := c1
      rw [q1, e0] at c1
      conv => whnf
      exact hX _ (step len 0 (by omega) (nI_inj (by omega) (by omega) c1) (fun m hm => absurd hm (Nat.not_lt_zero m)))
    · have c1 : ¬ H.1 54 (7 * g) = H.1 55 0 := c1
      rw [q1, e0] at c1
      conv => whnf
      refine ⟨Or.inl rfl, ?_, rfl⟩
      rw [show nmB d f pl len g = false by
        unfold nmB
        rw [decide_eq_false (fun z => c1 (by rw [z])), Bool.false_and]]
      rfl
theorem m_gaugeNamed {H : ia_H} {f : Nat → Int32} {d : tdT} {pl len : Nat} (hok : tdOk d) (hd : mDat H d) (h6 : len ≤ 6) (hly : lyOk H f pl len) (e0 : H.1 55 0 = nI len) (hcd : ∀ k, k < len → cd f (pl + k) ≤ 26) : V_ 108 [.ref 52, .int (nI (tdG d))] H (Zi_ (if fnd d f pl len < tdG d then nI (fnd d f pl len) else -1) H) := by
  have oG := hok.2.1
  have loop : ∀ (k g : Nat), g + k = tdG d → 1 ≤ g → fnd d f pl len = rn (fun g => decide (g < tdG d) && !nmB d f pl len g) (tdG d) g → R_ ia_k_X8_gaugeNamed (Zi_ (if fnd d f pl len < tdG d then nI (fnd d f pl len) else -1) H) (2, [some (.ref 52), some (.int (nI (tdG d))), some (.int (nI g))], [], H) := by
    intro k
    induction k with
    | zero =>
      intro g hk g1 e
      have hk : g = tdG d := by omega
      rw [rn_f (by rw [decide_eq_false (by omega), Bool.false_and])] at e
      refine ia_walk (fun pc => Nat.beq pc 2) 60 (fun X hX => ?_)
      conv => whnf
      refine And.intro (fun c => ?_) (fun c => ?_)
      · exact absurd (show nI g < nI (tdG d) from c) (nI_nlt (by omega) (by omega))
      · conv => whnf
        exact ⟨by rw [if_neg (by omega)], rfl⟩
    | succ k ih =>
      intro g hk g1 e
      have g2 : g < tdG d := by omega
      refine ia_walk (fun pc => Nat.beq pc 2) 60 (fun X hX => ?_)
      conv => whnf
      refine And.intro (fun c => ?_) (fun c => ?_)
      · conv => whnf
        obtain ⟨v, ev, ev'⟩ := ia_callN (m_isNamed hok hd h6 hly e0 hcd g1 g2)
        refine Exists.intro (_, _) (And.intro ev' ?_)
        clear ev'
        conv => whnf
        refine And.intro (fun c1 => ?_) (fun c1 => ?_)
        · have q : nmB d f pl len g = false := oI_0.mp (ev.symm.trans c1)
          conv => whnf
          rw [nI_1]
          refine hX _ (ih (g + 1) (by omega) (by omega) (e.trans (rn_t g2 ?_)))
          rw [decide_eq_true g2, q]
          rfl
        · have q : nmB d f pl len g = true := by
            cases hq : nmB d f pl len g
            · rw [hq] at ev; exact absurd ev c1
            · rfl
          have eg : fnd d f pl len = g := by
            rw [e]
            refine rn_f ?_
            rw [q]
            simp
          conv => whnf
          exact ⟨by rw [eg, if_pos g2], rfl⟩
      · exact absurd (show nI g < nI (tdG d) from nI_lt g2 (by omega)) c
  refine ia_V_in ia_k_X8_gaugeNamed [some (.ref 52), some (.int (nI (tdG d))), none] rfl rfl (Nat.le_of_ble_eq_true rfl) rfl ?_
  refine ia_walk (fun pc => Nat.beq pc 2) 60 (fun X hX => ?_)
  conv => whnf
  exact hX _ (loop (tdG d - 1) 1 (by have := hok.1; omega) (by omega) rfl)
/-- the letters become a new gauge's name -/
theorem l_mnm {h : ia_H} {f : Nat → Int32} {L e pl len : Nat} {d : tdT} (hG : tdG d < 41) (h1 : 1 ≤ len) (h6 : len ≤ 6) (hcd : ∀ k, k < len → 1 ≤ cd f (pl + k) ∧ cd f (pl + k) ≤ 26) (ah : Int32) {Z : Option Value → ia_H → Prop} (hZ : ∀ H' a4, MR h H' f L (nmAdd d f pl len) e → R_ ia_k_X8_readsName Z (102, [some (.ref 52), some (.int ah), some (.int (nI pl)), some (.int (nI (tdG d))), a4], [], H')) : ∀ (k i : Nat) (H : ia_H), i + k = len + 1 → MR h H f L d e → lyOk H f pl len → H.1 55 0 = nI len → (∀ m, m < i → H.1 54 (7 * tdG d + m) = H.1 55 m) → R_ ia_k_X8_readsName Z (56, [some (.ref 52), some (.int ah), some (.int (nI pl)), some (.int (nI (tdG d))), some (.int (nI i))], [], H) := by
  intro k
  induction k with
  | zero =>
    intro i H hk hm hly e0 hp
    have hk : i = len + 1 := by omega
    have e6 := hm.2.2.1
    refine ia_walk (fun pc => Nat.beq pc 102) 60 (fun X hX => ?_)
    conv => whnf
    refine Exists.intro 0 (And.intro (And.intro rfl (by decide)) ?_)
    conv => whnf
    refine And.intro (fun c => ?_) (fun c => ?_)
    · conv => whnf
      refine hX _ (hZ _ _ ?_)
      obtain ⟨⟨m1, m2, m3⟩, m4, m5, m6, m7, m8⟩ := hm
      refine ⟨⟨fun y h1 h2 h3 h4 h5 h6 => ?_, m2, fun j j1 j2 j3 j4 j5 => ?_⟩, m4, ?_, m6, ⟨fun g g1 g2 => ?_, m7.2⟩, nmAdd_ok m8 hG h1 h6 hcd⟩
      · show (if y = 52 then _ else H.1 y) = _
        rw [if_neg h1]
        exact m1 y h1 h2 h3 h4 h5 h6
      · show upd (H.1 52) 6 _ j = _
        rw [updn j3]
        exact m3 j j1 j2 j3 j4 j5
      · show H.1 52 6 + 1 = nI (tdG d + 1)
        rw [e6, nI_1]
      · have g2 : g < tdG d + 1 := g2
        show H.1 54 (7 * g) = nI (if g = tdG d then len else tdL d g) ∧ ∀ k, k < (if g = tdG d then len else tdL d g) → H.1 54 (7 * g + 1 + k) = nI (if g = tdG d then cd f (pl + k) else tdC d g k)
        by_cases hg : g = tdG d
        · simp only [if_pos hg]
          rw [hg]
          refine ⟨?_, fun k hk2 => ?_⟩
          · rw [show 7 * tdG d = 7 * tdG d + 0 by omega, hp 0 (by omega), e0]
          · rw [show 7 * tdG d + 1 + k = 7 * tdG d + (1 + k) by omega, hp (1 + k) (by omega)]
            exact hly k hk2 (by omega)
        · simp only [if_neg hg]
          exact m7.1 g g1 (by omega)
    · have c : ¬ H.1 55 0 < nI i := c
      rw [e0] at c
      exact absurd (nI_lt (by omega) (by omega)) c
  | succ k ih =>
    intro i H hk hm hly e0 hp
    have i1 : (7 : Int32) * nI (tdG d) + nI i = nI (7 * tdG d + i) := ix2 (pk_mul 7 (tdG d))
    refine ia_walk (fun pc => Nat.beq pc 56) 60 (fun X hX => ?_)
    conv => whnf
    refine Exists.intro 0 (And.intro (And.intro rfl (by decide)) ?_)
    conv => whnf
    refine And.intro (fun c => ?_) (fun c => ?_)
    · have c : H.1 55 0 < nI i := c
      rw [e0] at c
      exact absurd c (nI_nlt (by omega) (by omega))
    · conv => whnf
      refine Exists.intro _ (And.intro (And.intro rfl (by omega)) ?_)
      conv => whnf
      refine Exists.intro (7 * tdG d + i) (And.intro (And.intro (i1) (by omega)) ?_)
      conv => whnf
      rw [nI_1]
      refine hX _ (ih (i + 1) _ (by omega) ?_ hly e0 (fun m hm2 => ?_))
      · obtain ⟨⟨m1, m2, m3⟩, m4, m5, m6, m7, m8⟩ := hm
        refine ⟨⟨fun y h1 h2 h3 h4 h5 h6 => ?_, m2, m3⟩, m4, m5, m6, ⟨fun g g1 g2 => ?_, m7.2⟩, m8⟩
        · show (if y = 54 then _ else H.1 y) = _
          rw [if_neg h2]
          exact m1 y h1 h2 h3 h4 h5 h6
        · have o6 := (m8.2.2.2.1 g g1 g2).2.1
          show upd (H.1 54) (7 * tdG d + i) _ (7 * g) = _ ∧ ∀ k, _ → upd (H.1 54) (7 * tdG d + i) _ (7 * g + 1 + k) = _
          rw [updn (by omega)]
          exact ⟨(m7.1 g g1 g2).1, fun k hk2 => by rw [updn (by omega)]; exact (m7.1 g g1 g2).2 k hk2⟩
      · show upd (H.1 54) (7 * tdG d + i) (H.1 55 i) (7 * tdG d + m) = H.1 55 m
        by_cases e : m = i
        · rw [e, updp]
        · rw [updn (by omega)]
          exact hp m (by omega)
/-- a name, read by the reference; ah: the gauge that it may not be -/
def MN (h : ia_H) (f : Nat → Int32) (L pl : Nat) (nm : Nat × Int32 × tdT × Nat) (ah : Int32) (r : Option Value) (H : ia_H) : Prop := (nm.1 = 0 ∧ ¬ nm.2.1 = ah ∧ r = some (.int 1) ∧ H.1 52 8 = nm.2.1 ∧ MR h H f L nm.2.2.1 nm.2.2.2) ∨ (¬ (nm.1 = 0 ∧ ¬ nm.2.1 = ah) ∧ r = some (.int 0) ∧ H.1 52 3 = nI (if nm.1 = 0 then 8 * pl + 4 else nm.1) ∧ MR h H f L nm.2.2.1 nm.2.2.2)
theorem m_readsName {h H : ia_H} {f : Nat → Int32} {L pl : Nat} {d : tdT} (hm : MR h H f L d pl) (hlt : isLt f L pl = true) (ah : Int32) : V_ 109 [.ref 52, .int ah] H (fun r H' => MN h f L pl (nmT f L d pl) ah r H') := by
  have hL := hm.2.1.1
  have hok := hm.2.2.2.2.2
  have oG := hok.2.1
  have e2 := hm.2.1.2.2.2.1
  have hple := hm.2.1.2.1
  obtain ⟨e1, e3⟩ := rn_le (isLt f L) hple
  have hne : ¬ rn (isLt f L) L pl = pl := by
    intro q
    have := rn_t (p := isLt f L) (L := L) (j := pl) (cd_ok hlt).2.2.2.1 hlt
    have := rn_le (isLt f L) (L := L) (j := pl + 1) (cd_ok hlt).2.2.2.1
    omega
  obtain ⟨r1, K1, ev1, z1, z2, z3, z4⟩ := m_readsLetters hm
  have hlet : ∀ k, k < rn (isLt f L) L pl - pl → isLt f L (pl + k) = true := fun k hk => rn_in (p := isLt f L) (L := L) (j := pl) (by omega) (by omega)
  obtain ⟨f1, f2⟩ := fnd_le (d := d) f pl (rn (isLt f L) L pl - pl) hok.1
  have enm : nmT f L d pl = nmT f L d pl := rfl
  conv at enm => rhs; unfold nmT
  rw [if_neg hne] at enm
  generalize hE : rn (isLt f L) L pl = e at *
  subst z1
  have tail : ∀ (K : ia_H) (d2 : tdT) (g : Nat) (a4 : Option Value), g < 2 ^ 31 → MR h K f L d2 e → nmT f L d pl = (0, nI g, d2, e) → R_ ia_k_X8_readsName (fun r H' => MN h f L pl (nmT f L d pl) ah r H') (102, [some (.ref 52), some (.int ah), some (.int (nI pl)), some (.int (nI g)), a4], [], K) := by
    intro K d2 g a4 hg hK en
    rw [en]
    refine ia_walk (fun _ => false) 60 (fun X hX => ?_)
    conv => whnf
    refine And.intro (fun q => ?_) (fun q => ?_)
    · have q : nI g = ah := q
      conv => whnf
      have evf := ia_callE (m_fails K (pl := pl) (w := 4))
      refine Exists.intro (_, _) (And.intro evf ?_)
      conv => whnf
      refine ⟨Or.inl rfl, Or.inr ⟨fun z => z.2 q, rfl, ?_, MR_wr hK _⟩⟩
      show nI (8 * pl + 4) = nI (if (0 : Nat) = 0 then 8 * pl + 4 else 0)
      rw [if_pos rfl]
    · have q : ¬ nI g = ah := q
      conv => whnf
      refine ⟨Or.inr rfl, Or.inl ⟨rfl, q, rfl, rfl, ?_⟩⟩
      obtain ⟨⟨m1, m2, m3⟩, m4, m5, m6, m7, m8⟩ := hK
      refine ⟨⟨fun y h1 h2 h3 h4 h5 h6 => ?_, m2, fun j j1 j2 j3 j4 j5 => ?_⟩, m4, m5, m6, m7, m8⟩
      · show (if y = 52 then _ else K.1 y) = _
        rw [if_neg h1]
        exact m1 y h1 h2 h3 h4 h5 h6
      · show upd (K.1 52) 8 _ j = _
        rw [updn j4]
        exact m3 j j1 j2 j3 j4 j5
  refine ia_V_in ia_k_X8_readsName [some (.ref 52), some (.int ah), none, none, none] rfl rfl (Nat.le_of_ble_eq_true rfl) rfl ?_
  refine ia_walk (fun pc => Nat.beq pc 102 || Nat.beq pc 56) 60 (fun X hX => ?_)
  conv => whnf
  refine Exists.intro (_, _) (And.intro ev1 ?_)
  rw [e2]
  by_cases q6 : 6 < e - pl
  · rw [if_pos q6] at enm
    rw [if_pos q6]
    conv => whnf
    refine And.intro (fun c => ?_) (fun c => ?_)
    · conv => whnf
      have evf := ia_callE (m_fails K1 (pl := pl) (w := 2))
      refine Exists.intro (_, _) (And.intro evf ?_)
      conv => whnf
      rw [enm]
      refine ⟨Or.inl rfl, Or.inr ⟨fun z => by have z : 8 * pl + 2 = 0 := z.1; omega, rfl, ?_, MR_wr z2 _⟩⟩
      show nI (8 * pl + 2) = nI (if 8 * pl + 2 = 0 then 8 * pl + 4 else 8 * pl + 2)
      rw [if_neg (by omega)]
    · exact absurd (show (-1 : Int32) < 0 by decide) c
  · rw [if_neg q6] at enm
    rw [if_neg q6]
    have vg := m_gaugeNamed (f := f) (pl := pl) (len := e - pl) hok z2.2.2.2.2.1 (by omega) z3 z4 (fun k hk => (cd_ok (hlet k hk)).2.1)
    rw [← z2.2.2.1] at vg
    conv => whnf
    refine And.intro (fun c => ?_) (fun c => ?_)
    · exact absurd (show nI (e - pl) < 0 from c) (nI_pos (by omega))
    · conv => whnf
      obtain ⟨v, ev, evg⟩ := ia_callN (f := Value.int) vg
      refine Exists.intro (_, _) (And.intro evg ?_)
      have e6 := z2.2.2.1
      by_cases qf : fnd d f pl (e - pl) < tdG d
      · rw [if_pos qf] at enm
        rw [if_pos qf] at ev
        subst ev
        conv => whnf
        refine And.intro (fun c1 => ?_) (fun c1 => ?_)
        · exact absurd (show nI (fnd d f pl (e - pl)) < 0 from c1) (nI_pos (by omega))
        · conv => whnf
          exact hX _ (tail K1 d _ none (by omega) z2 enm)
      · rw [if_neg qf] at enm
        rw [if_neg qf] at ev
        subst ev
        conv => whnf
        refine And.intro (fun c1 => ?_) (fun c1 => ?_)
        · conv => whnf
          refine And.intro (fun c2 => ?_) (fun c2 => ?_)
          · have c2 : K1.1 52 6 = 41 := c2
            rw [e6] at c2
            have hG : tdG d = 41 := nI_inj (b := 41) (by omega) (by omega) c2
            rw [if_pos hG] at enm
            conv => whnf
            have evf := ia_callE (m_fails K1 (pl := pl) (w := 3))
            refine Exists.intro (_, _) (And.intro evf ?_)
            conv => whnf
            rw [enm]
            refine ⟨Or.inl rfl, Or.inr ⟨fun z => by have z : 8 * pl + 3 = 0 := z.1; omega, rfl, ?_, MR_wr z2 _⟩⟩
            show nI (8 * pl + 3) = nI (if 8 * pl + 3 = 0 then 8 * pl + 4 else 8 * pl + 3)
            rw [if_neg (by omega)]
          · have c2 : ¬ K1.1 52 6 = 41 := c2
            rw [e6] at c2
            have hG : tdG d < 41 := by
              have : ¬ tdG d = 41 := fun z => c2 (by rw [z]; rfl)
              omega
            rw [if_neg (by omega)] at enm
            have lp := l_mnm (h := h) (f := f) (L := L) (e := e) (pl := pl) (len := e - pl) hG (by omega) (by omega) (fun k hk => ⟨(cd_ok (hlet k hk)).1, (cd_ok (hlet k hk)).2.1⟩) ah (Z := fun r H' => MN h f L pl (nmT f L d pl) ah r H') (fun H' a4 hH' => tail H' _ _ a4 (by omega) hH' enm) (e - pl + 1) 0 K1 (by omega) z2 z3 z4 (fun m hm => absurd hm (Nat.not_lt_zero m))
            rw [← e6] at lp
            conv => whnf
            exact hX _ (lp)
        · exact absurd (show (-1 : Int32) < 0 by decide) c1
theorem sub48m {x : Int32} (N : Int64) (h1 : 48 ≤ x.toInt) (h2 : x.toInt ≤ 57) : 10 * N + x.toInt64 - 48 = N * 10 + (x - 48).toInt64 := by
  have e : (x - 48).toInt64 = x.toInt64 - 48 := by
    apply Int64.toInt_inj.mp
    rw [sub48 h1 h2, Int64.toInt_sub, Int32.toInt_toInt64]
    have : (48 : Int64).toInt = 48 := rfl
    rw [this]
    exact (Int.bmod_eq_of_le (by omega) (by omega)).symm
  rw [e, Int64.mul_comm, Int64.sub_eq_add_neg, Int64.sub_eq_add_neg, Int64.add_assoc]
theorem hr_dg {f : Nat → Int32} {L j : Nat} (h : isDg f L j = true) (hb : byR (f j)) : hrV f L j = f j := by
  obtain ⟨d1, d2, d3⟩ := dg_ok h
  unfold hrV
  rw [if_pos d3]
  have e : f j = nI (f j).toInt.toNat := by
    apply Int32.toInt_inj.mp
    rw [nI_toInt (by omega)]
    omega
  rw [e] at hb ⊢
  exact (and255 hb (by omega)).mpr rfl
theorem l_mnb {h : ia_H} {f : Nat → Int32} {L b : Nat} {d : tdT} {Z : Option Value → ia_H → Prop} (hZ : ∀ H', MR h H' f L d (rn (isDg f L) L b) → (rn (isDg f L) L b - b ≤ 18 → H'.2 52 9 = numV f b (rn (isDg f L) L b - b)) → R_ ia_k_X8_readsNumber Z (94, [some (.ref 52), some (.int (nI b))], [], H')) : ∀ (k pl : Nat) (H : ia_H), pl + k = L → b ≤ pl → rn (isDg f L) L b = rn (isDg f L) L pl → MR h H f L d pl → (pl - b ≤ 18 → H.2 52 9 = numV f b (pl - b)) → R_ ia_k_X8_readsNumber Z (30, [some (.ref 52), some (.int (nI b))], [], H) := by
  intro k
  induction k with
  | zero =>
    intro pl H hk h0 he hm hv
    have hb : ∀ i, i < L → byR (f i) := fun i hi => (hm.2.1.2.2.2.2 i hi).2
    have q := isDg_o f L pl (by omega)
    rw [rn_f q] at he
    rw [← he] at hm hv
    have hz := hZ H hm hv
    refine ia_walk (fun pc => Nat.beq pc 94) 60 (fun X hX => ?_)
    rw [← he] at q
    conv => whnf
    refine Exists.intro (_, _) (And.intro (ia_callE (m_byteAtE hm.2.1)) ?_)
    conv => whnf
    obtain ⟨v, ev, ev'⟩ := ia_callN (m_isDigit (h := H) hb (rn (isDg f L) L b))
    refine Exists.intro (_, _) (And.intro ev' ?_)
    clear ev'
    conv => whnf
    refine And.intro (fun c => ?_) (fun c => ?_)
    · conv => whnf
      exact hX _ (hz)
    · rw [q] at ev
      exact absurd ev c
  | succ k ih =>
    intro pl H hk h0 he hm hv
    have hL := hm.2.1.1
    have e2 := hm.2.1.2.2.2.1
    have hb : ∀ i, i < L → byR (f i) := fun i hi => (hm.2.1.2.2.2.2 i hi).2
    have esub : H.1 52 2 - nI b = nI (pl - b) := by
      rw [e2]
      have e3 : nI pl = nI (pl - b) + nI b := by rw [nI_add]; congr 1; omega
      rw [e3]
      exact Int32.add_sub_cancel _ _
    refine ia_walk (fun pc => Nat.beq pc 30 || Nat.beq pc 81 || Nat.beq pc 94) 60 (fun X hX => ?_)
    conv => whnf
    refine Exists.intro (_, _) (And.intro (ia_callE (m_byteAtE hm.2.1)) ?_)
    conv => whnf
    obtain ⟨v, ev, ev'⟩ := ia_callN (m_isDigit (h := H) hb pl)
    refine Exists.intro (_, _) (And.intro ev' ?_)
    clear ev'
    conv => whnf
    refine And.intro (fun c => ?_) (fun c => ?_)
    · have q : isDg f L pl = false := oI_0.mp (ev.symm.trans c)
      rw [rn_f q] at he
      rw [← he] at hm hv
      conv => whnf
      exact hX _ (hZ H hm hv)
    · have q : isDg f L pl = true := by
        cases hq : isDg f L pl
        · rw [hq] at ev; exact absurd ev c
        · rfl
      obtain ⟨g1, g2, g3⟩ := dg_ok q
      rw [rn_t (by omega) q] at he
      have step : ∀ K : ia_H, MR h K f L d pl → (pl + 1 - b ≤ 18 → K.2 52 9 = numV f b (pl + 1 - b)) → R_ ia_k_X8_readsNumber Z (81, [some (.ref 52), some (.int (nI b))], [], K) := by
        intro K hK hvK
        have nx := ih (pl + 1) (hAt K (pl + 1)) (by omega) (by omega) he (MR_at hK (by omega)) hvK
        rw [← at_u hK.2.1.2.2.2.1] at nx
        refine ia_walk (fun pc => Nat.beq pc 30) 60 (fun X hX => ?_)
        conv => whnf
        exact hX _ (nx)
      conv => whnf
      refine And.intro (fun c2 => ?_) (fun c2 => ?_)
      · have c2 : H.1 52 2 - nI b < 18 := c2
        rw [esub] at c2
        have hlt : pl - b < 18 := (nI_ltI (b := 18) (by omega) (by decide)).mp c2
        conv => whnf
        refine Exists.intro (_, _) (And.intro (ia_callE (m_byteAtE hm.2.1)) ?_)
        conv => whnf
        refine hX _ (step _ ?_ (fun _ => ?_))
        · obtain ⟨⟨m1, m2, m3⟩, m4, m5, m6, m7, m8⟩ := hm
          refine ⟨⟨m1, fun y h1 h2 => ?_, m3⟩, m4, m5, m6, m7, m8⟩
          show (if y = 52 then _ else H.2 y) = _
          rw [if_neg h1]
          exact m2 y h1 h2
        · show 10 * H.2 52 9 + (hrV f L pl).toInt64 - 48 = _
          rw [hr_dg q (hb pl g3), sub48m _ g1 g2, hv (by omega), show pl + 1 - b = pl - b + 1 by omega, numV, show b + (pl - b) = pl by omega]
      · have c2 : ¬ H.1 52 2 - nI b < 18 := c2
        rw [esub] at c2
        have hlt : ¬ pl - b < 18 := fun z => c2 (nI_lt (b := 18) z (by omega))
        conv => whnf
        exact hX _ (step H hm (fun z => by omega))
theorem m_readsNumber {h H : ia_H} {f : Nat → Int32} {L pl : Nat} {d : tdT} (hm : MR h H f L d pl) : V_ 110 [.ref 52] H (fun r H' => ((nbT f L pl).1 = 0 ∧ r = some (.int 1) ∧ H'.2 52 9 = (nbT f L pl).2.1 ∧ MR h H' f L d (nbT f L pl).2.2) ∨ (¬ (nbT f L pl).1 = 0 ∧ r = some (.int 0) ∧ H'.1 52 3 = nI (nbT f L pl).1 ∧ ∃ p', MR h H' f L d p')) := by
  have hb : ∀ i, i < L → byR (f i) := fun i hi => (hm.2.1.2.2.2.2 i hi).2
  have hL := hm.2.1.1
  obtain ⟨b1, b2⟩ : pl ≤ bl f L pl ∧ bl f L pl ≤ L := rn_le (isS f L 32) hm.2.1.2.1
  have vn := m_next hm.2.1
  have hm1 := MR_at hm b2
  have enb : nbT f L pl = nbT f L pl := rfl
  conv at enb => rhs; unfold nbT
  generalize hB : bl f L pl = b at *
  obtain ⟨e1, e3⟩ := rn_le (isDg f L) b2
  have e22 : (hAt H b).1 52 2 = nI b := rfl
  refine ia_V_in ia_k_X8_readsNumber [some (.ref 52), none] rfl rfl (Nat.le_of_ble_eq_true rfl) rfl ?_
  refine ia_walk (fun pc => Nat.beq pc 30) 60 (fun X hX => ?_)
  conv => whnf
  refine Exists.intro (_, _) (And.intro (ia_callE (vn)) ?_)
  conv => whnf
  obtain ⟨v, ev, ev'⟩ := ia_callN (m_isDigit (h := hAt H b) hb b)
  refine Exists.intro (_, _) (And.intro ev' ?_)
  clear ev'
  conv => whnf
  refine And.intro (fun c => ?_) (fun c => ?_)
  · have q : isDg f L b = false := oI_0.mp (ev.symm.trans c)
    rw [if_pos (rn_f q)] at enb
    conv => whnf
    have evf := ia_callE (m_fails (hAt H b) (pl := b) (w := 1))
    refine Exists.intro (_, _) (And.intro evf ?_)
    conv => whnf
    rw [enb]
    exact ⟨Or.inl rfl, Or.inr ⟨by show ¬ 8 * b + 1 = 0; omega, rfl, rfl, b, MR_wr hm1 _⟩⟩
  · have q : isDg f L b = true := by
      cases hq : isDg f L b
      · rw [hq] at ev; exact absurd ev c
      · rfl
    have hne : ¬ rn (isDg f L) L b = b := by
      intro z
      have := rn_t (p := isDg f L) (L := L) (j := b) (dg_ok q).2.2 q
      have := rn_le (isDg f L) (L := L) (j := b + 1) (dg_ok q).2.2
      omega
    rw [if_neg hne] at enb
    generalize hE : rn (isDg f L) L b = e at *
    have hm2 : MR h (hsL (hAt H b) 52 (vp_updL ((hAt H b).2 52) 9 0)) f L d b := by
      obtain ⟨⟨m1, m2, m3⟩, m4, m5, m6, m7, m8⟩ := hm1
      refine ⟨⟨m1, fun y h1 h2 => ?_, m3⟩, m4, m5, m6, m7, m8⟩
      show (if y = 52 then _ else (hAt H b).2 y) = _
      rw [if_neg h1]
      exact m2 y h1 h2
    have lp := l_mnb (h := h) (f := f) (L := L) (b := b) (d := d) (Z := fun r H' => ((nbT f L pl).1 = 0 ∧ r = some (.int 1) ∧ H'.2 52 9 = (nbT f L pl).2.1 ∧ MR h H' f L d (nbT f L pl).2.2) ∨ (¬ (nbT f L pl).1 = 0 ∧ r = some (.int 0) ∧ H'.1 52 3 = nI (nbT f L pl).1 ∧ ∃ p', MR h H' f L d p')) (fun K hK hv => ?_) (L - b) b _ (by omega) (Nat.le_refl _) rfl hm2 (fun _ => by rw [Nat.sub_self]; rfl)
    · conv => whnf
      exact hX _ (lp)
    · rw [hE] at hK hv
      have esub : K.1 52 2 - nI b = nI (e - b) := by
        rw [hK.2.1.2.2.2.1]
        have e5 : nI e = nI (e - b) + nI b := by rw [nI_add]; congr 1; omega
        rw [e5]
        exact Int32.add_sub_cancel _ _
      refine ia_walk (fun _ => false) 60 (fun X hX => ?_)
      conv => whnf
      refine And.intro (fun c2 => ?_) (fun c2 => ?_)
      · have c2 : (18 : Int32) < K.1 52 2 - nI b := c2
        rw [esub] at c2
        have h18 : 18 < e - b := (nI_lt_iff (a := 18) (by omega) (by omega)).mp c2
        rw [if_pos h18] at enb
        conv => whnf
        have evf := ia_callE (m_fails K (pl := b) (w := 2))
        refine Exists.intro (_, _) (And.intro evf ?_)
        conv => whnf
        refine And.intro (fun c3 => ?_) (fun c3 => ?_)
        · conv => whnf
          rw [enb]
          exact ⟨Or.inl rfl, Or.inr ⟨by show ¬ 8 * b + 2 = 0; omega, rfl, rfl, e, MR_wr hK _⟩⟩
        · exact absurd rfl c3
      · have c2 : ¬ (18 : Int32) < K.1 52 2 - nI b := c2
        rw [esub] at c2
        have h18 : ¬ 18 < e - b := fun z => c2 (nI_lt (a := 18) z (by omega))
        rw [if_neg h18] at enb
        conv => whnf
        rw [enb]
        exact ⟨Or.inr rfl, Or.inl ⟨rfl, rfl, hv (by omega), hK⟩⟩
