/-! tell, test, gauge: both sides -/
theorem cDat_X {H : ia_H} {c : Nat} {t d : tdT} (hc : cDat H c d) (hx : tdX t d) : cDat H c t := by
  obtain ⟨x1, x2, ⟨x3, x4⟩, x5⟩ := hx
  refine ⟨hc.1, fun g g1 g2 => ?_, fun s hs => ?_⟩
  · obtain ⟨q1, q2⟩ := hc.2.1 g g1 (by omega)
    obtain ⟨w1, w2⟩ := x3 g g1 g2
    rw [w1]
    exact ⟨q1, fun k hk => by rw [w2 k]; exact q2 k hk⟩
  · obtain ⟨q1, q2, q3, q4⟩ := hc.2.2 s (by omega)
    obtain ⟨w1, w2, w3⟩ := x4 s hs
    rw [w1, w2, w3, x5 s hs]
    exact ⟨q1, q2, q3, q4⟩
theorem mDat_X {H : ia_H} {t d : tdT} (hc : mDat H d) (hx : tdX t d) : mDat H t := by
  obtain ⟨x1, x2, ⟨x3, x4⟩, x5⟩ := hx
  refine ⟨fun g g1 g2 => ?_, fun s hs => ?_⟩
  · obtain ⟨q1, q2⟩ := hc.1 g g1 (by omega)
    obtain ⟨w1, w2⟩ := x3 g g1 g2
    rw [w1]
    exact ⟨q1, fun k hk => by rw [w2 k]; exact q2 k hk⟩
  · obtain ⟨q1, q2, q3, q4⟩ := hc.2 s (by omega)
    obtain ⟨w1, w2, w3⟩ := x4 s hs
    rw [w1, w2, w3, x5 s hs]
    exact ⟨q1, q2, q3, q4⟩
theorem tdX_ac {t d : tdT} (hx : tdX t d) : acR (-1) t d := ⟨hx.2.2.1, Or.inl ⟨rfl, hx.1, hx.2.1, hx.2.2.2⟩⟩
/-- reading has left what is told -/
theorem KS_rd {h H : ia_H} {ts : Nat → tdT} {u p : Nat} (hk : KS h ts u p) (c1 : cRep H 4 (ts u)) (c2 : mRep H (ts u)) (c3 : ltB H 4) (e1 : ∀ y, ((11 ≤ y ∧ y ≤ 28) ∨ (30 ≤ y ∧ y ≤ 33) ∨ (43 ≤ y ∧ y ≤ 46) ∨ y = 51 ∨ (62 ≤ y ∧ y ≤ 65)) → H.1 y = h.1 y) (eg : ∀ g, g < tdG (ts u) → H.1 60 g = h.1 60 g ∧ H.2 61 g = h.2 61 g) (e22 : H.1 52 22 = h.1 52 22) (e2 : ∀ y, (y = 16 ∨ y = 23 ∨ y = 28 ∨ y = 64) → H.2 y = h.2 y) : KS H ts u p := by
  obtain ⟨k1, k2, k3, k4, k5, k6, k7, k8, k9⟩ := hk
  refine ⟨k1, c1, c2, ?_, aC_fr k5 (fun y q1 q2 => e1 y (by omega)), aM_fr k6 e22 (fun i _ => by rw [e1 63 (by omega)]) (fun i _ => by rw [e2 64 (by omega)]), c3, ?_, ?_⟩
  · refine dvOk_fr k4 ⟨c2.1.trans k3.1.symm, c2.2.1.trans k3.2.1.symm⟩ ⟨c1.1.trans k2.1.symm, c1.2.1.trans k2.2.1.symm⟩ (fun s hs => ?_) eg (e1 _ (by omega)) (e1 _ (by omega)) (e2 _ (by omega)) (fun y q1 q2 => e1 y (by omega))
    obtain ⟨a1, a2, -⟩ := c1.2.2.2.2 s hs
    obtain ⟨b1, b2, -⟩ := k2.2.2.2.2 s hs
    obtain ⟨a3, a4, -⟩ := c2.2.2.2 s hs
    obtain ⟨b3, b4, -⟩ := k3.2.2.2 s hs
    exact ⟨a3.trans b3.symm, a4.trans b4.symm, by rw [e1 62 (by omega)], a1.trans b1.symm, a2.trans b2.symm⟩
  · exact imOk_fr k8 (by decide) (by rw [e1 51 (by omega)]) (by rw [e1 65 (by omega)]) (fun y q1 q2 => e1 y (by omega)) (e2 _ (by omega)) (fun i _ => by rw [e1 63 (by omega)]) (fun i _ => by rw [e2 64 (by omega)])
  · exact imOk_fr k9 (by decide) (by rw [e1 51 (by omega)]) (by rw [e1 65 (by omega)]) (fun y q1 q2 => e1 y (by omega)) (e2 _ (by omega)) (fun i _ => by rw [e1 63 (by omega)]) (fun i _ => by rw [e2 64 (by omega)])
/-- an empty tape is an empty tape -/
theorem tp_0 {H : ia_H} (e1 : H.1 2 1 = 0) (e2 : H.1 52 1 = 0) : ∃ L, tpOk H L := ⟨0, by decide, e1, e2, fun j hj => absurd hj (Nat.not_lt_zero j)⟩
theorem pn_fr {h H : ia_H} (hp : pnOk h) (e : ∀ y, (y = 48 ∨ y = 49 ∨ y = 74 ∨ y = 75) → H.1 y = h.1 y) : pnOk H := by
  refine ⟨fun i hi => ?_, fun i hi => ?_⟩
  · rw [e 48 (by omega), e 75 (by omega)]; exact hp.1 i hi
  · rw [e 49 (by omega), e 74 (by omega)]; exact hp.2 i hi
theorem j_tell {h : ia_H} (hj : Jx h) : JQ 65 [.ref 0] 113 [.ref 52] h := by
  obtain ⟨⟨ts, u, p, k1, k2, k3, k4, k5, k6, k7, k8, k9⟩, ⟨L, t1, t2, t3, t4⟩, hpn⟩ := hj
  have hks : KS h ts u p := ⟨k1, k2, k3, k4, k5, k6, k7, k8, k9⟩
  have hb : ∀ i, i < L → byR (h.1 3 i) := fun i hi => (t4 i hi).2
  obtain ⟨x1, x2, x3⟩ := tx_ok (f := h.1 3) (n0 := tdN (ts u)) t1 (k := 13) k1 (Nat.zero_le L)
  obtain ⟨r1, H1, ev1, z1, pl, z2⟩ := v_readText hb k1 k2 k7 t1 t2
  subst z1
  generalize hTX : txT (h.1 3) L (tdN (ts u)) 13 (ts u) 0 = tx at *
  obtain ⟨⟨c1, c2⟩, c3, c4, c5, c6, c7, c8, c9⟩ := z2
  -- the tape is emptied
  have dK : cDat (hsI H1 2 (upd (H1.1 2) 1 0)) 4 tx.2 := c7
  have e4 : H1.1 4 = h.1 4 := c1 4 (by decide) (by decide) (by decide)
  by_cases hf : tx.1 = 0
  · -- told
    have hAd0 := v_add (hsI H1 2 (upd (H1.1 2) 1 0)) u p k5.1 k5.2.1 (by show H1.1 43 3 = _; rw [c1 43 (by decide) (by decide) (by decide)]; exact k5.2.2.1) (by show H1.1 43 4 = _; rw [c1 43 (by decide) (by decide) (by decide)]; exact k5.2.2.2.1) (-1)
    obtain ⟨r2, H2, ev2, y1, y2⟩ := hAd0
    subst y1
    have f2 : ∀ y, y ≠ 2 → (y < 43 ∨ 46 < y) → H2.1 y = H1.1 y := fun y q1 q2 => by
      rw [y2]
      show (if y = 43 then _ else if y = 46 then _ else if y = 45 then _ else if y = 44 then _ else if y = 2 then _ else H1.1 y) = _
      rw [if_neg (by omega), if_neg (by omega), if_neg (by omega), if_neg (by omega), if_neg q1]
    have f2l : H2.2 = H1.2 := by rw [y2]; rfl
    obtain ⟨H3, eH3⟩ : ∃ H3, H3 = hsI (hsI H2 4 (upd (H2.1 4) 6 (H2.1 1 1))) 4 (upd (upd (H2.1 4) 6 (H2.1 1 1)) 7 (H2.1 1 2)) := ⟨_, rfl⟩
    have f3 : ∀ y, y ≠ 2 → y ≠ 4 → (y < 43 ∨ 46 < y) → H3.1 y = H1.1 y := fun y q1 q2 q3 => by
      rw [← f2 y q1 q3, eH3]
      show (if y = 4 then _ else if y = 4 then _ else H2.1 y) = _
      rw [if_neg q2, if_neg q2]
    have f3l : H3.2 = H1.2 := by rw [← f2l, eH3]; rfl
    have r3 : cRep H3 4 tx.2 := by
      have e46 : H3.1 4 6 = H2.1 1 1 := by rw [eH3]; rfl
      have e47 : H3.1 4 7 = H2.1 1 2 := by rw [eH3]; rfl
      refine ⟨?_, ?_, ?_⟩
      · rw [e46, f2 1 (by decide) (by decide)]; exact c4
      · rw [e47, f2 1 (by decide) (by decide)]; exact c5
      · unfold cDat
        rw [f3l, f3 (4 + 1) (by decide) (by decide) (by decide), f3 (4 + 2) (by decide) (by decide) (by decide), f3 (4 + 3) (by decide) (by decide) (by decide), f3 (4 + 4) (by decide) (by decide) (by decide), f3 (4 + 6) (by decide) (by decide) (by decide)]
        exact c7
    obtain ⟨r4, h1, ev4, w1, w2, w3⟩ := v_anew x2 r3
    subst w1
    have g1 : ∀ y, y ≠ 1 → y ≠ 2 → ((11 ≤ y ∧ y < 26) ∨ y = 3 ∨ 47 ≤ y) → h1.1 y = h.1 y := fun y q1 q2 q3 => by
      rw [w2.1 y (by omega) (by omega) (by omega), f3 y q2 (by omega) (by omega), c1 y q1 q2 (by omega)]
    have g2 : ∀ y, y ≠ 9 → y ≠ 28 → h1.2 y = h.2 y := fun y q1 q2 => by
      rw [w2.2 y q2, f3l, c2 y q1]
    have rc1 : cRep h1 4 tx.2 := cRep_fr r3 (fun y q1 q2 => w2.1 y (by omega) (by omega) (by omega)) (w2.2 _ (by decide))
    have aC1 : aC h1 (tsP ts u tx.2) (uP u) (pP p) := by
      refine aC_add (h := hsI H1 2 (upd (H1.1 2) 1 0)) (aC_fr k5 (fun y q1 q2 => ?_)) (tdX_ac x1) ?_ ?_ ?_ ?_ ?_ ?_
      · show (if y = 2 then _ else H1.1 y) = _
        rw [if_neg (by omega)]
        exact c1 y (by omega) (by omega) (by omega)
      · show H1.1 4 6 = _
        rw [e4]; exact k2.1
      · show H1.1 4 7 = _
        rw [e4]; exact k2.2.1
      · rw [w2.1 43 (by decide) (by decide) (by decide), eH3, ← y2]; rfl
      · rw [w2.1 44 (by decide) (by decide) (by decide), eH3, ← y2]; rfl
      · rw [w2.1 45 (by decide) (by decide) (by decide), eH3, ← y2]; rfl
      · rw [w2.1 46 (by decide) (by decide) (by decide), eH3, ← y2]; rfl
    have lt1 : ltB h1 4 := by
      refine ltB_fr c8 ?_
      rw [w2.1 (4 + 1) (by decide) (by decide) (by decide), f3 (4 + 1) (by decide) (by decide) (by decide)]
    have e21 : h1.1 2 1 = 0 := by
      rw [w2.1 2 (by decide) (by decide) (by decide), eH3, y2]
      rfl
    have e47 : h1.1 4 7 = nI (tdN tx.2) := rc1.2.1
    refine ⟨some (.int (nI (tdN tx.2))), h1, ?_, ?_⟩
    · -- the class
      have hV : V_ 65 [.ref 0] h (fun r h' => r = some (.int (nI (tdN tx.2))) ∧ h' = h1) := by
        refine ia_V_in ia_k_X7_tell [some (.ref 0), none] rfl rfl (Nat.le_of_ble_eq_true rfl) rfl ?_
        refine ia_walk (fun _ => false) 60 (fun X hX => ?_)
        conv => whnf
        refine Exists.intro (_, _) (And.intro ev1 ?_)
        conv => whnf
        refine And.intro (fun b => ?_) (fun b => ?_)
        · conv => whnf
          refine Exists.intro (_, _) (And.intro ev2 ?_)
          conv => whnf
          rw [eH3] at ev4
          refine Exists.intro (_, _) (And.intro ev4 ?_)
          conv => whnf
          exact ⟨congrArg (fun v => some (Value.int v)) e47, rfl⟩
        · exact absurd (show nI tx.1 = 0 by rw [hf]; rfl) b
      exact ia_callE hV
    · -- the reference
      have mr1 : mRep h1 (ts u) := mRep_fr k3 (by rw [g1 52 (by decide) (by decide) (by decide)]) (by rw [g1 52 (by decide) (by decide) (by decide)]) (g1 54 (by decide) (by decide) (by decide)) (g1 56 (by decide) (by decide) (by decide)) (g1 57 (by decide) (by decide) (by decide)) (g1 59 (by decide) (by decide) (by decide)) (g2 58 (by decide) (by decide))
      obtain ⟨q1, K1, evm, m1⟩ := m_readsAll (f := h.1 3) k1 mr1 t1 (by rw [g1 52 (by decide) (by decide) (by decide)]; exact t3) (fun j hj => by rw [g1 53 (by decide) (by decide) (by decide)]; exact ⟨(t4 j hj).1.symm, (t4 j hj).2⟩)
      rw [hTX] at m1
      rcases m1 with ⟨m1, m2, pm, m3⟩ | ⟨m1, -⟩
      · subst m2
        obtain ⟨⟨n1, n2, n3⟩, n4, n5, n6, n7, n8⟩ := m3
        have mr2 : mRep (hsI K1 52 (upd (K1.1 52) 1 0)) (ts u) := by
          refine ⟨?_, ?_, mDat_X n7 x1⟩
          · show K1.1 52 4 = _
            rw [n3 4 (by decide) (by decide) (by decide) (by decide) (by decide)]; exact mr1.1
          · show K1.1 52 10 = _
            rw [n3 10 (by decide) (by decide) (by decide) (by decide) (by decide)]; exact mr1.2.1
        have aM2 : aM (hsI K1 52 (upd (K1.1 52) 1 0)) ts u := by
          refine aM_fr k6 ?_ (fun i _ => ?_) (fun i _ => ?_)
          · show K1.1 52 22 = _
            rw [n3 22 (by decide) (by decide) (by decide) (by decide) (by decide), g1 52 (by decide) (by decide) (by decide)]
          · show K1.1 63 i = _
            rw [n1 63 (by decide) (by decide) (by decide) (by decide) (by decide) (by decide), g1 63 (by decide) (by decide) (by decide)]
          · show K1.2 64 i = _
            rw [n2 64 (by decide) (by decide), g2 64 (by decide) (by decide)]
        obtain ⟨q2, K2, ev2m, s1, s2, s3⟩ := m_keepsAct k1 mr2 aM2 tx.2
        subst s1
        obtain ⟨K3, eK3⟩ : ∃ K3, K3 = hsI (hsI K2 52 (upd (K2.1 52) 4 (K2.1 52 6))) 52 (upd (upd (K2.1 52) 4 (K2.1 52 6)) 10 (K2.1 52 15)) := ⟨_, rfl⟩
        have mr3 : mRep K3 tx.2 := by
          have d1 : K3.1 52 4 = K2.1 52 6 := by rw [eK3]; rfl
          have d2 : K3.1 52 10 = K2.1 52 15 := by rw [eK3]; rfl
          refine ⟨?_, ?_, ?_⟩
          · rw [d1, s3.2.2.1 6 (by decide)]; exact n5
          · rw [d2, s3.2.2.1 15 (by decide)]; exact n6
          · have d : ∀ y, y ≠ 52 → y ≠ 63 → K3.1 y = K1.1 y := fun y a1 a2 => by
              rw [eK3]
              show (if y = 52 then _ else if y = 52 then _ else K2.1 y) = _
              rw [if_neg a1, if_neg a1, s3.1 y a1 a2]
              show (if y = 52 then _ else K1.1 y) = _
              rw [if_neg a1]
            have dl : K3.2 58 = K1.2 58 := by
              rw [eK3]
              show K2.2 58 = _
              rw [s3.2.1 58 (by decide)]
              rfl
            unfold mDat
            rw [d 54 (by decide) (by decide), d 56 (by decide) (by decide), d 57 (by decide) (by decide), d 59 (by decide) (by decide), dl]
            exact n7
        obtain ⟨q4, h2, ev4m, a1, a2, a3⟩ := m_anew x2 mr3
        subst a1
        have ht2 := tsP_top ts k5.1 tx.2
        have b52 : ∀ j, j ≠ 4 → j ≠ 10 → h2.1 52 j = K2.1 52 j := fun j j1 j2 => by
          rw [a2.1 52 (by decide) (by decide), eK3]
          show upd (upd (K2.1 52) 4 _) 10 _ j = _
          rw [updn j2, updn j1]
        have by1 : ∀ y, (y < 52 ∨ y = 53 ∨ 65 ≤ y) → h2.1 y = h1.1 y := fun y hy => by
          rw [a2.1 y (by omega) (by omega), eK3]
          show (if y = 52 then _ else if y = 52 then _ else K2.1 y) = _
          rw [if_neg (by omega), if_neg (by omega), s3.1 y (by omega) (by omega)]
          show (if y = 52 then _ else K1.1 y) = _
          rw [if_neg (by omega)]
          exact n1 y (by omega) (by omega) (by omega) (by omega) (by omega) (by omega)
        have by2 : ∀ y, y < 52 → h2.2 y = h1.2 y := fun y hy => by
          rw [a2.2 y (by omega), eK3]
          show K2.2 y = _
          rw [s3.2.1 y (by omega)]
          exact n2 y (by omega) (by omega)
        have b63 : ∀ i, h2.1 63 i = K2.1 63 i := fun i => by rw [a2.1 63 (by decide) (by decide), eK3]; rfl
        have b64 : ∀ i, h2.2 64 i = K2.2 64 i := fun i => by rw [a2.2 64 (by decide), eK3]; rfl
        have mrF : mRep h2 tx.2 := mRep_fr mr3 (by rw [a2.1 52 (by decide) (by decide)]) (by rw [a2.1 52 (by decide) (by decide)]) (a2.1 54 (by decide) (by decide)) (a2.1 56 (by decide) (by decide)) (a2.1 57 (by decide) (by decide)) (a2.1 59 (by decide) (by decide)) (a2.2 58 (by decide))
        have rcF : cRep h2 4 tx.2 := cRep_fr rc1 (fun y _ _ => by1 y (by omega)) (by2 _ (by decide))
        have cjF : cJ h2 tx.2 := cJ_fr w3 (by1 _ (by omega)) (by1 _ (by omega)) (by2 _ (by omega)) (fun y _ _ => by1 y (by omega))
        have r63 : ∀ i, 12980 ≤ i → h2.1 63 i = h.1 63 i := fun i hi => by
          rw [b63, s3.2.2.2.1 i hi]
          show K1.1 63 i = _
          rw [n1 63 (by decide) (by decide) (by decide) (by decide) (by decide) (by decide), g1 63 (by decide) (by decide) (by decide)]
        have r64 : ∀ i, 2400 ≤ i → h2.2 64 i = h.2 64 i := fun i hi => by
          rw [b64, s3.2.2.2.2 i hi]
          show K1.2 64 i = _
          rw [n2 64 (by decide) (by decide), g2 64 (by decide) (by decide)]
        have im : ∀ k, k < 2 → imOk h k → imOk h2 k := fun k hk hi => imOk_fr hi hk (by rw [by1 51 (by omega), g1 51 (by decide) (by decide) (by decide)]) (by rw [by1 65 (by omega), g1 65 (by decide) (by decide) (by decide)]) (fun y a b => by rw [by1 y (by omega), g1 y (by omega) (by omega) (by omega)]) (by rw [by2 _ (by omega), g2 _ (by omega) (by omega)]) (fun i hi => r63 _ (by omega)) (fun i hi => r64 _ (by omega))
        have e1t : h2.1 52 1 = 0 := by
          rw [b52 1 (by decide) (by decide), s3.2.2.1 1 (by decide)]
          rfl
        have hJ2 : Jx h2 := by
          refine ⟨⟨tsP ts u tx.2, uP u, pP p, by rw [ht2]; exact x2, by rw [ht2]; exact rcF, by rw [ht2]; exact mrF, by rw [ht2]; exact dv_of x2 rcF mrF cjF a3, aC_fr aC1 (fun y _ _ => by1 y (by omega)), aM_fr s2 (b52 22 (by decide) (by decide)) (fun i _ => b63 i) (fun i _ => b64 i), ltB_fr lt1 (by1 _ (by omega)), im 0 (by decide) k8, im 1 (by decide) k9⟩, tp_0 (by rw [by1 2 (by omega)]; exact e21) e1t, pn_fr hpn (fun y hy => by rw [by1 y (by omega), g1 y (by omega) (by omega) (by omega)])⟩
        have eN : h2.1 52 10 = nI (tdN tx.2) := mrF.2.1
        refine ia_V_in ia_k_X8_tell [some (.ref 52), none] rfl rfl (Nat.le_of_ble_eq_true rfl) rfl ?_
        refine ia_walk (fun _ => false) 60 (fun X hX => ?_)
        conv => whnf
        refine Exists.intro (_, _) (And.intro evm ?_)
        conv => whnf
        refine And.intro (fun b => ?_) (fun b => ?_)
        · exact absurd (show (1 : Int32) = 0 from b) (by decide)
        · conv => whnf
          refine Exists.intro (_, _) (And.intro ev2m ?_)
          conv => whnf
          rw [eK3] at ev4m
          refine Exists.intro (_, _) (And.intro ev4m ?_)
          conv => whnf
          exact ⟨congrArg (fun v => some (Value.int v)) eN, hJ2⟩
      · exact absurd hf m1
  · sorry
