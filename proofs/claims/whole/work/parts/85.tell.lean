/-! tell, test, gauge: both sides -/
theorem cDat_X {H : ia_H} {c : Nat} {t d : tdT} (hc : cDat H c d) (hx : tdX t d) : cDat H c t := by
  obtain ⟨x1, x2, ⟨x3, x4⟩, x5⟩ := hx
  refine ⟨hc.1, fun g g1 g2 => ?_, fun s hs => ?_⟩
  · obtain ⟨q1, q2⟩ := hc.2.1 g g1 (by omega)
    obtain ⟨w1, w2⟩ := x3 g g1 g2
    rw [w1]
    exact ⟨q1, fun k hk => by rw [w2 k]; exact q2 k hk⟩
  · obtain ⟨q1, q2, q3, q4⟩ := hc.2.2 s (by omega)
    obtain ⟨w1, w2, w3⟩ := x4 s hs
    rw [w1, w2, w3, x5 s hs]
    exact ⟨q1, q2, q3, q4⟩
theorem mDat_X {H : ia_H} {t d : tdT} (hc : mDat H d) (hx : tdX t d) : mDat H t := by
  obtain ⟨x1, x2, ⟨x3, x4⟩, x5⟩ := hx
  refine ⟨fun g g1 g2 => ?_, fun s hs => ?_⟩
  · obtain ⟨q1, q2⟩ := hc.1 g g1 (by omega)
    obtain ⟨w1, w2⟩ := x3 g g1 g2
    rw [w1]
    exact ⟨q1, fun k hk => by rw [w2 k]; exact q2 k hk⟩
  · obtain ⟨q1, q2, q3, q4⟩ := hc.2 s (by omega)
    obtain ⟨w1, w2, w3⟩ := x4 s hs
    rw [w1, w2, w3, x5 s hs]
    exact ⟨q1, q2, q3, q4⟩
theorem tdX_ac {t d : tdT} (hx : tdX t d) : acR (-1) t d := ⟨hx.2.2.1, Or.inl ⟨rfl, hx.1, hx.2.1, hx.2.2.2⟩⟩
/-- reading has left what is told -/
theorem KS_rd {h H : ia_H} {ts : Nat → tdT} {u p : Nat} (hk : KS h ts u p) (c1 : cRep H 4 (ts u)) (c2 : mRep H (ts u)) (c3 : ltB H 4) (e1 : ∀ y, ((11 ≤ y ∧ y ≤ 28) ∨ (30 ≤ y ∧ y ≤ 33) ∨ (43 ≤ y ∧ y ≤ 46) ∨ y = 51 ∨ (62 ≤ y ∧ y ≤ 65)) → H.1 y = h.1 y) (eg : ∀ g, g < tdG (ts u) → H.1 60 g = h.1 60 g ∧ H.2 61 g = h.2 61 g) (e22 : H.1 52 22 = h.1 52 22) (e2 : ∀ y, (y = 16 ∨ y = 23 ∨ y = 28 ∨ y = 64) → H.2 y = h.2 y) : KS H ts u p := by
  obtain ⟨k1, k2, k3, k4, k5, k6, k7, k8, k9⟩ := hk
  refine ⟨k1, c1, c2, ?_, aC_fr k5 (fun y q1 q2 => e1 y (by omega)), aM_fr k6 e22 (fun i _ => by rw [e1 63 (by omega)]) (fun i _ => by rw [e2 64 (by omega)]), c3, ?_, ?_⟩
  · refine dvOk_fr k4 ⟨c2.1.trans k3.1.symm, c2.2.1.trans k3.2.1.symm⟩ ⟨c1.1.trans k2.1.symm, c1.2.1.trans k2.2.1.symm⟩ (fun s hs => ?_) eg (e1 _ (by omega)) (e1 _ (by omega)) (e2 _ (by omega)) (fun y q1 q2 => e1 y (by omega))
    obtain ⟨a1, a2, -⟩ := c1.2.2.2.2 s hs
    obtain ⟨b1, b2, -⟩ := k2.2.2.2.2 s hs
    obtain ⟨a3, a4, -⟩ := c2.2.2.2 s hs
    obtain ⟨b3, b4, -⟩ := k3.2.2.2 s hs
    exact ⟨a3.trans b3.symm, a4.trans b4.symm, by rw [e1 62 (by omega)], a1.trans b1.symm, a2.trans b2.symm⟩
  · exact imOk_fr k8 (by decide) (by rw [e1 51 (by omega)]) (by rw [e1 65 (by omega)]) (fun y q1 q2 => e1 y (by omega)) (e2 _ (by omega)) (fun i _ => by rw [e1 63 (by omega)]) (fun i _ => by rw [e2 64 (by omega)])
  · exact imOk_fr k9 (by decide) (by rw [e1 51 (by omega)]) (by rw [e1 65 (by omega)]) (fun y q1 q2 => e1 y (by omega)) (e2 _ (by omega)) (fun i _ => by rw [e1 63 (by omega)]) (fun i _ => by rw [e2 64 (by omega)])
/-- an empty tape is an empty tape -/
theorem tp_0 {H : ia_H} (e1 : H.1 2 1 = 0) (e2 : H.1 52 1 = 0) : ∃ L, tpOk H L := ⟨0, by decide, e1, e2, fun j hj => absurd hj (Nat.not_lt_zero j)⟩
theorem pn_fr {h H : ia_H} (hp : pnOk h) (e : ∀ y, (y = 48 ∨ y = 49 ∨ y = 74 ∨ y = 75) → H.1 y = h.1 y) : pnOk H := by
  refine ⟨fun i hi => ?_, fun i hi => ?_⟩
  · rw [e 48 (by omega), e 75 (by omega)]; exact hp.1 i hi
  · rw [e 49 (by omega), e 74 (by omega)]; exact hp.2 i hi
/-- both have read, and told nothing -/
theorem rd_J {h H1 K1 F : ia_H} {ts : Nat → tdT} {u p L pl p' : Nat} {d d' : tdT} {ft : Int32} {f : Nat → Int32} (hks : KS h ts u p) (hpn : pnOk h) (hc : CR h H1 L d pl ft) (hx : tdX (ts u) d) (hm : MR (hsI H1 2 (upd (H1.1 2) 1 0)) K1 f L d' p') (hx2 : tdX (ts u) d') (f1 : ∀ y, y ≠ 52 → y ≠ 60 → F.1 y = K1.1 y) (f2 : ∀ y, y ≠ 61 → F.2 y = K1.2 y) (f3 : ∀ j, j ≠ 1 → F.1 52 j = K1.1 52 j) (f4 : F.1 52 1 = 0) (f5 : ∀ g, g < tdG (ts u) → F.1 60 g = K1.1 60 g ∧ F.2 61 g = K1.2 61 g) : Jx F := by
  obtain ⟨⟨c1, c2⟩, c3, c4, c5, c6, c7, c8, c9⟩ := hc
  obtain ⟨⟨n1, n2, n3⟩, n4, n5, n6, n7, n8⟩ := hm
  have h2 : ∀ y, y ≠ 2 → (hsI H1 2 (upd (H1.1 2) 1 0)).1 y = H1.1 y := fun y q => hsI_ne H1 _ q
  have a1 : ∀ y, y < 52 → F.1 y = (hsI H1 2 (upd (H1.1 2) 1 0)).1 y := fun y hy => by
    rw [f1 y (by omega) (by omega), n1 y (by omega) (by omega) (by omega) (by omega) (by omega) (by omega)]
  have a2 : ∀ y, y < 52 → F.2 y = H1.2 y := fun y hy => by
    rw [f2 y (by omega), n2 y (by omega) (by omega)]
    rfl
  have k2 := hks.2.1
  have k3 := hks.2.2.1
  refine ⟨⟨ts, u, p, KS_rd hks ?_ ?_ ?_ (fun y hy => ?_) (fun g hg => ?_) ?_ (fun y hy => ?_)⟩, tp_0 ?_ f4, pn_fr hpn (fun y hy => ?_)⟩
  · refine ⟨?_, ?_, ?_⟩
    · rw [a1 4 (by decide), h2 4 (by decide), c1 4 (by decide) (by decide) (by decide)]; exact k2.1
    · rw [a1 4 (by decide), h2 4 (by decide), c1 4 (by decide) (by decide) (by decide)]; exact k2.2.1
    · have := cDat_X c7 hx
      unfold cDat at this ⊢
      rw [a1 (4 + 1) (by decide), a1 (4 + 2) (by decide), a1 (4 + 3) (by decide), a1 (4 + 4) (by decide), a1 (4 + 6) (by decide), a2 (4 + 5) (by decide)]
      exact this
  · refine ⟨?_, ?_, ?_⟩
    · rw [f3 4 (by decide), n3 4 (by decide) (by decide) (by decide) (by decide) (by decide), h2 52 (by decide), c1 52 (by decide) (by decide) (by decide)]; exact k3.1
    · rw [f3 10 (by decide), n3 10 (by decide) (by decide) (by decide) (by decide) (by decide), h2 52 (by decide), c1 52 (by decide) (by decide) (by decide)]; exact k3.2.1
    · have := mDat_X n7 hx2
      unfold mDat at this ⊢
      rw [f1 54 (by decide) (by decide), f1 56 (by decide) (by decide), f1 57 (by decide) (by decide), f1 59 (by decide) (by decide), f2 58 (by decide)]
      exact this
  · exact ltB_fr c8 (by rw [a1 (4 + 1) (by decide)]; rfl)
  · by_cases q : y < 52
    · rw [a1 y q, h2 y (by omega), c1 y (by omega) (by omega) (by omega)]
    · rw [f1 y (by omega) (by omega), n1 y (by omega) (by omega) (by omega) (by omega) (by omega) (by omega), h2 y (by omega), c1 y (by omega) (by omega) (by omega)]
  · rw [(f5 g hg).1, (f5 g hg).2, n1 60 (by decide) (by decide) (by decide) (by decide) (by decide) (by decide), h2 60 (by decide), c1 60 (by decide) (by decide) (by decide), n2 61 (by decide) (by decide)]
    exact ⟨rfl, by rw [← c2 61 (by decide)]; rfl⟩
  · rw [f3 22 (by decide), n3 22 (by decide) (by decide) (by decide) (by decide) (by decide), h2 52 (by decide), c1 52 (by decide) (by decide) (by decide)]
  · rw [f2 y (by omega), n2 y (by omega) (by omega), ← c2 y (by omega)]
    rfl
  · rw [a1 2 (by decide)]
    rfl
  · by_cases q : y < 52
    · rw [a1 y q, h2 y (by omega), c1 y (by omega) (by omega) (by omega)]
    · rw [f1 y (by omega) (by omega), n1 y (by omega) (by omega) (by omega) (by omega) (by omega) (by omega), h2 y (by omega), c1 y (by omega) (by omega) (by omega)]
theorem mr_rd {h H1 : ia_H} {t : tdT} {L pl : Nat} {d : tdT} {ft : Int32} (k3 : mRep h t) (hc : CR h H1 L d pl ft) : mRep (hsI H1 2 (upd (H1.1 2) 1 0)) t := by
  obtain ⟨⟨c1, c2⟩, -⟩ := hc
  have e : ∀ y, 52 ≤ y → (hsI H1 2 (upd (H1.1 2) 1 0)).1 y = h.1 y := fun y hy => by
    rw [hsI_ne H1 _ (by omega)]
    exact c1 y (by omega) (by omega) (by omega)
  exact mRep_fr k3 (by rw [e 52 (by decide)]) (by rw [e 52 (by decide)]) (e 54 (by decide)) (e 56 (by decide)) (e 57 (by decide)) (e 59 (by decide)) (c2 58 (by decide))
theorem j_tell {h : ia_H} (hj : Jx h) : JQ 65 [.ref 0] 113 [.ref 52] h := by
  obtain ⟨⟨ts, u, p, k1, k2, k3, k4, k5, k6, k7, k8, k9⟩, ⟨L, t1, t2, t3, t4⟩, hpn⟩ := hj
  have hks : KS h ts u p := ⟨k1, k2, k3, k4, k5, k6, k7, k8, k9⟩
  have hb : ∀ i, i < L → byR (h.1 3 i) := fun i hi => (t4 i hi).2
  obtain ⟨x1, x2, x3⟩ := tx_ok (f := h.1 3) (n0 := tdN (ts u)) t1 (k := 13) k1 (Nat.zero_le L)
  obtain ⟨r1, H1, ev1, z1, pl, z2⟩ := v_readText hb k1 k2 k7 t1 t2
  subst z1
  generalize hTX : txT (h.1 3) L (tdN (ts u)) 13 (ts u) 0 = tx at *
  have z20 := z2
  obtain ⟨⟨c1, c2⟩, c3, c4, c5, c6, c7, c8, c9⟩ := z2
  have dK : cDat (hsI H1 2 (upd (H1.1 2) 1 0)) 4 tx.2 := c7
  have e4 : H1.1 4 = h.1 4 := c1 4 (by decide) (by decide) (by decide)
  by_cases hf : tx.1 = 0
  · -- told
    have hAd0 := v_add (hsI H1 2 (upd (H1.1 2) 1 0)) u p k5.1 k5.2.1 (by show H1.1 43 3 = _; rw [c1 43 (by decide) (by decide) (by decide)]; exact k5.2.2.1) (by show H1.1 43 4 = _; rw [c1 43 (by decide) (by decide) (by decide)]; exact k5.2.2.2.1) (-1)
    obtain ⟨r2, H2, ev2, y1, y2⟩ := hAd0
    subst y1
    have f2 : ∀ y, y ≠ 2 → (y < 43 ∨ 46 < y) → H2.1 y = H1.1 y := fun y q1 q2 => by
      rw [y2]
      show (if y = 43 then _ else if y = 46 then _ else if y = 45 then _ else if y = 44 then _ else if y = 2 then _ else H1.1 y) = _
      rw [if_neg (by omega), if_neg (by omega), if_neg (by omega), if_neg (by omega), if_neg q1]
    have f2l : H2.2 = H1.2 := by rw [y2]; rfl
    obtain ⟨H3, eH3⟩ : ∃ H3, H3 = hsI (hsI H2 4 (upd (H2.1 4) 6 (H2.1 1 1))) 4 (upd (upd (H2.1 4) 6 (H2.1 1 1)) 7 (H2.1 1 2)) := ⟨_, rfl⟩
    have f3 : ∀ y, y ≠ 2 → y ≠ 4 → (y < 43 ∨ 46 < y) → H3.1 y = H1.1 y := fun y q1 q2 q3 => by
      rw [← f2 y q1 q3, eH3]
      show (if y = 4 then _ else if y = 4 then _ else H2.1 y) = _
      rw [if_neg q2, if_neg q2]
    have f3l : H3.2 = H1.2 := by rw [← f2l, eH3]; rfl
    have r3 : cRep H3 4 tx.2 := by
      have e46 : H3.1 4 6 = H2.1 1 1 := by rw [eH3]; rfl
      have e47 : H3.1 4 7 = H2.1 1 2 := by rw [eH3]; rfl
      refine ⟨?_, ?_, ?_⟩
      · rw [e46, f2 1 (by decide) (by decide)]; exact c4
      · rw [e47, f2 1 (by decide) (by decide)]; exact c5
      · unfold cDat
        rw [f3l, f3 (4 + 1) (by decide) (by decide) (by decide), f3 (4 + 2) (by decide) (by decide) (by decide), f3 (4 + 3) (by decide) (by decide) (by decide), f3 (4 + 4) (by decide) (by decide) (by decide), f3 (4 + 6) (by decide) (by decide) (by decide)]
        exact c7
    obtain ⟨r4, h1, ev4, w1, w2, w3⟩ := v_anew x2 r3
    subst w1
    have g1 : ∀ y, y ≠ 1 → y ≠ 2 → ((11 ≤ y ∧ y < 26) ∨ y = 3 ∨ 47 ≤ y) → h1.1 y = h.1 y := fun y q1 q2 q3 => by
      rw [w2.1 y (by omega) (by omega) (by omega), f3 y q2 (by omega) (by omega), c1 y q1 q2 (by omega)]
    have g2 : ∀ y, y ≠ 9 → y ≠ 28 → h1.2 y = h.2 y := fun y q1 q2 => by
      rw [w2.2 y q2, f3l, c2 y q1]
    have rc1 : cRep h1 4 tx.2 := cRep_fr r3 (fun y q1 q2 => w2.1 y (by omega) (by omega) (by omega)) (w2.2 _ (by decide))
    have aC1 : aC h1 (tsP ts u tx.2) (uP u) (pP p) := by
      refine aC_add (h := hsI H1 2 (upd (H1.1 2) 1 0)) (aC_fr k5 (fun y q1 q2 => ?_)) (tdX_ac x1) ?_ ?_ ?_ ?_ ?_ ?_
      · show (if y = 2 then _ else H1.1 y) = _
        rw [if_neg (by omega)]
        exact c1 y (by omega) (by omega) (by omega)
      · show H1.1 4 6 = _
        rw [e4]; exact k2.1
      · show H1.1 4 7 = _
        rw [e4]; exact k2.2.1
      · rw [w2.1 43 (by decide) (by decide) (by decide), eH3, ← y2]; rfl
      · rw [w2.1 44 (by decide) (by decide) (by decide), eH3, ← y2]; rfl
      · rw [w2.1 45 (by decide) (by decide) (by decide), eH3, ← y2]; rfl
      · rw [w2.1 46 (by decide) (by decide) (by decide), eH3, ← y2]; rfl
    have lt1 : ltB h1 4 := by
      refine ltB_fr c8 ?_
      rw [w2.1 (4 + 1) (by decide) (by decide) (by decide), f3 (4 + 1) (by decide) (by decide) (by decide)]
    have e21 : h1.1 2 1 = 0 := by
      rw [w2.1 2 (by decide) (by decide) (by decide), eH3, y2]
      rfl
    have e47 : h1.1 4 7 = nI (tdN tx.2) := rc1.2.1
    refine ⟨some (.int (nI (tdN tx.2))), h1, ?_, ?_⟩
    · -- the class
      have hV : V_ 65 [.ref 0] h (fun r h' => r = some (.int (nI (tdN tx.2))) ∧ h' = h1) := by
        refine ia_V_in ia_k_X7_tell [some (.ref 0), none] rfl rfl (Nat.le_of_ble_eq_true rfl) rfl ?_
        refine ia_walk (fun _ => false) 60 (fun X hX => ?_)
        conv => whnf
        refine Exists.intro (_, _) (And.intro ev1 ?_)
        conv => whnf
        refine And.intro (fun b => ?_) (fun b => ?_)
        · conv => whnf
          refine Exists.intro (_, _) (And.intro ev2 ?_)
          conv => whnf
          rw [eH3] at ev4
          refine Exists.intro (_, _) (And.intro ev4 ?_)
          conv => whnf
          exact ⟨congrArg (fun v => some (Value.int v)) e47, rfl⟩
        · exact absurd (show nI tx.1 = 0 by rw [hf]; rfl) b
      exact ia_callE hV
    · -- the reference
      have mr1 : mRep h1 (ts u) := mRep_fr k3 (by rw [g1 52 (by decide) (by decide) (by decide)]) (by rw [g1 52 (by decide) (by decide) (by decide)]) (g1 54 (by decide) (by decide) (by decide)) (g1 56 (by decide) (by decide) (by decide)) (g1 57 (by decide) (by decide) (by decide)) (g1 59 (by decide) (by decide) (by decide)) (g2 58 (by decide) (by decide))
      obtain ⟨q1, K1, evm, m1⟩ := m_readsAll (f := h.1 3) k1 mr1 t1 (by rw [g1 52 (by decide) (by decide) (by decide)]; exact t3) (fun j hj => by rw [g1 53 (by decide) (by decide) (by decide)]; exact ⟨(t4 j hj).1.symm, (t4 j hj).2⟩)
      rw [hTX] at m1
      rcases m1 with ⟨m1, m2, pm, m3⟩ | ⟨m1, -⟩
      · subst m2
        obtain ⟨⟨n1, n2, n3⟩, n4, n5, n6, n7, n8⟩ := m3
        have mr2 : mRep (hsI K1 52 (upd (K1.1 52) 1 0)) (ts u) := by
          refine ⟨?_, ?_, mDat_X n7 x1⟩
          · show K1.1 52 4 = _
            rw [n3 4 (by decide) (by decide) (by decide) (by decide) (by decide)]; exact mr1.1
          · show K1.1 52 10 = _
            rw [n3 10 (by decide) (by decide) (by decide) (by decide) (by decide)]; exact mr1.2.1
        have aM2 : aM (hsI K1 52 (upd (K1.1 52) 1 0)) ts u := by
          refine aM_fr k6 ?_ (fun i _ => ?_) (fun i _ => ?_)
          · show K1.1 52 22 = _
            rw [n3 22 (by decide) (by decide) (by decide) (by decide) (by decide), g1 52 (by decide) (by decide) (by decide)]
          · show K1.1 63 i = _
            rw [n1 63 (by decide) (by decide) (by decide) (by decide) (by decide) (by decide), g1 63 (by decide) (by decide) (by decide)]
          · show K1.2 64 i = _
            rw [n2 64 (by decide) (by decide), g2 64 (by decide) (by decide)]
        obtain ⟨q2, K2, ev2m, s1, s2, s3⟩ := m_keepsAct k1 mr2 aM2 tx.2
        subst s1
        obtain ⟨K3, eK3⟩ : ∃ K3, K3 = hsI (hsI K2 52 (upd (K2.1 52) 4 (K2.1 52 6))) 52 (upd (upd (K2.1 52) 4 (K2.1 52 6)) 10 (K2.1 52 15)) := ⟨_, rfl⟩
        have mr3 : mRep K3 tx.2 := by
          have d1 : K3.1 52 4 = K2.1 52 6 := by rw [eK3]; rfl
          have d2 : K3.1 52 10 = K2.1 52 15 := by rw [eK3]; rfl
          refine ⟨?_, ?_, ?_⟩
          · rw [d1, s3.2.2.1 6 (by decide)]; exact n5
          · rw [d2, s3.2.2.1 15 (by decide)]; exact n6
          · have d : ∀ y, y ≠ 52 → y ≠ 63 → K3.1 y = K1.1 y := fun y a1 a2 => by
              rw [eK3]
              show (if y = 52 then _ else if y = 52 then _ else K2.1 y) = _
              rw [if_neg a1, if_neg a1, s3.1 y a1 a2]
              show (if y = 52 then _ else K1.1 y) = _
              rw [if_neg a1]
            have dl : K3.2 58 = K1.2 58 := by
              rw [eK3]
              show K2.2 58 = _
              rw [s3.2.1 58 (by decide)]
              rfl
            unfold mDat
            rw [d 54 (by decide) (by decide), d 56 (by decide) (by decide), d 57 (by decide) (by decide), d 59 (by decide) (by decide), dl]
            exact n7
        obtain ⟨q4, h2, ev4m, a1, a2, a3⟩ := m_anew x2 mr3
        subst a1
        have ht2 := tsP_top ts k5.1 tx.2
        have b52 : ∀ j, j ≠ 4 → j ≠ 10 → h2.1 52 j = K2.1 52 j := fun j j1 j2 => by
          rw [a2.1 52 (by decide) (by decide), eK3]
          show upd (upd (K2.1 52) 4 _) 10 _ j = _
          rw [updn j2, updn j1]
        have by1 : ∀ y, (y < 52 ∨ y = 53 ∨ 65 ≤ y) → h2.1 y = h1.1 y := fun y hy => by
          rw [a2.1 y (by omega) (by omega), eK3]
          show (if y = 52 then _ else if y = 52 then _ else K2.1 y) = _
          rw [if_neg (by omega), if_neg (by omega), s3.1 y (by omega) (by omega)]
          show (if y = 52 then _ else K1.1 y) = _
          rw [if_neg (by omega)]
          exact n1 y (by omega) (by omega) (by omega) (by omega) (by omega) (by omega)
        have by2 : ∀ y, y < 52 → h2.2 y = h1.2 y := fun y hy => by
          rw [a2.2 y (by omega), eK3]
          show K2.2 y = _
          rw [s3.2.1 y (by omega)]
          exact n2 y (by omega) (by omega)
        have b63 : ∀ i, h2.1 63 i = K2.1 63 i := fun i => by rw [a2.1 63 (by decide) (by decide), eK3]; rfl
        have b64 : ∀ i, h2.2 64 i = K2.2 64 i := fun i => by rw [a2.2 64 (by decide), eK3]; rfl
        have mrF : mRep h2 tx.2 := mRep_fr mr3 (by rw [a2.1 52 (by decide) (by decide)]) (by rw [a2.1 52 (by decide) (by decide)]) (a2.1 54 (by decide) (by decide)) (a2.1 56 (by decide) (by decide)) (a2.1 57 (by decide) (by decide)) (a2.1 59 (by decide) (by decide)) (a2.2 58 (by decide))
        have rcF : cRep h2 4 tx.2 := cRep_fr rc1 (fun y _ _ => by1 y (by omega)) (by2 _ (by decide))
        have cjF : cJ h2 tx.2 := cJ_fr w3 (by1 _ (by omega)) (by1 _ (by omega)) (by2 _ (by omega)) (fun y _ _ => by1 y (by omega))
        have r63 : ∀ i, 12980 ≤ i → h2.1 63 i = h.1 63 i := fun i hi => by
          rw [b63, s3.2.2.2.1 i hi]
          show K1.1 63 i = _
          rw [n1 63 (by decide) (by decide) (by decide) (by decide) (by decide) (by decide), g1 63 (by decide) (by decide) (by decide)]
        have r64 : ∀ i, 2400 ≤ i → h2.2 64 i = h.2 64 i := fun i hi => by
          rw [b64, s3.2.2.2.2 i hi]
          show K1.2 64 i = _
          rw [n2 64 (by decide) (by decide), g2 64 (by decide) (by decide)]
        have im : ∀ k, k < 2 → imOk h k → imOk h2 k := fun k hk hi => imOk_fr hi hk (by rw [by1 51 (by omega), g1 51 (by decide) (by decide) (by decide)]) (by rw [by1 65 (by omega), g1 65 (by decide) (by decide) (by decide)]) (fun y a b => by rw [by1 y (by omega), g1 y (by omega) (by omega) (by omega)]) (by rw [by2 _ (by omega), g2 _ (by omega) (by omega)]) (fun i hi => r63 _ (by omega)) (fun i hi => r64 _ (by omega))
        have e1t : h2.1 52 1 = 0 := by
          rw [b52 1 (by decide) (by decide), s3.2.2.1 1 (by decide)]
          rfl
        have hJ2 : Jx h2 := by
          refine ⟨⟨tsP ts u tx.2, uP u, pP p, by rw [ht2]; exact x2, by rw [ht2]; exact rcF, by rw [ht2]; exact mrF, by rw [ht2]; exact dv_of x2 rcF mrF cjF a3, aC_fr aC1 (fun y _ _ => by1 y (by omega)), aM_fr s2 (b52 22 (by decide) (by decide)) (fun i _ => b63 i) (fun i _ => b64 i), ltB_fr lt1 (by1 _ (by omega)), im 0 (by decide) k8, im 1 (by decide) k9⟩, tp_0 (by rw [by1 2 (by omega)]; exact e21) e1t, pn_fr hpn (fun y hy => by rw [by1 y (by omega), g1 y (by omega) (by omega) (by omega)])⟩
        have eN : h2.1 52 10 = nI (tdN tx.2) := mrF.2.1
        refine ia_V_in ia_k_X8_tell [some (.ref 52), none] rfl rfl (Nat.le_of_ble_eq_true rfl) rfl ?_
        refine ia_walk (fun _ => false) 60 (fun X hX => ?_)
        conv => whnf
        refine Exists.intro (_, _) (And.intro evm ?_)
        conv => whnf
        refine And.intro (fun b => ?_) (fun b => ?_)
        · exact absurd (show (1 : Int32) = 0 from b) (by decide)
        · conv => whnf
          refine Exists.intro (_, _) (And.intro ev2m ?_)
          conv => whnf
          rw [eK3] at ev4m
          refine Exists.intro (_, _) (And.intro ev4m ?_)
          conv => whnf
          exact ⟨congrArg (fun v => some (Value.int v)) eN, hJ2⟩
      · exact absurd hf m1
  · -- a fault
    have hft : ¬ nI tx.1 = 0 := fun z => hf ((nI_z (by omega)).mp z)
    refine ⟨some (.int (-2 - nI tx.1)), hsI H1 2 (upd (H1.1 2) 1 0), ?_, ?_⟩
    · have hV : V_ 65 [.ref 0] h (fun r h' => r = some (.int (-2 - nI tx.1)) ∧ h' = hsI H1 2 (upd (H1.1 2) 1 0)) := by
        refine ia_V_in ia_k_X7_tell [some (.ref 0), none] rfl rfl (Nat.le_of_ble_eq_true rfl) rfl ?_
        refine ia_walk (fun _ => false) 60 (fun X hX => ?_)
        conv => whnf
        refine Exists.intro (_, _) (And.intro ev1 ?_)
        conv => whnf
        refine And.intro (fun b => ?_) (fun b => ?_)
        · exact absurd b hft
        · conv => whnf
          exact ⟨rfl, rfl⟩
      exact ia_callE hV
    · have g1 : ∀ y, 52 ≤ y → (hsI H1 2 (upd (H1.1 2) 1 0)).1 y = h.1 y := fun y hy => by
        rw [hsI_ne H1 _ (by omega)]
        exact c1 y (by omega) (by omega) (by omega)
      obtain ⟨q1, K1, evm, m1⟩ := m_readsAll (f := h.1 3) k1 (mr_rd k3 z20) t1 (by rw [g1 52 (by decide)]; exact t3) (fun j hj => by rw [g1 53 (by decide)]; exact ⟨(t4 j hj).1.symm, (t4 j hj).2⟩)
      rw [hTX] at m1
      rcases m1 with ⟨m1, -⟩ | ⟨m1, m2, m3, d', p', m4, m5⟩
      · exact absurd m1 hf
      · subst m2
        have hJ2 : Jx (hsI K1 52 (upd (K1.1 52) 1 0)) := rd_J hks hpn z20 x1 m4 m5 (fun y a _ => hsI_ne K1 _ a) (fun _ _ => rfl) (fun j hj => updn hj) rfl (fun _ _ => ⟨rfl, rfl⟩)
        refine ia_V_in ia_k_X8_tell [some (.ref 52), none] rfl rfl (Nat.le_of_ble_eq_true rfl) rfl ?_
        refine ia_walk (fun _ => false) 60 (fun X hX => ?_)
        conv => whnf
        refine Exists.intro (_, _) (And.intro evm ?_)
        conv => whnf
        refine And.intro (fun b => ?_) (fun b => ?_)
        · conv => whnf
          refine ⟨?_, hJ2⟩
          rw [← m3]
          rfl
        · exact absurd rfl b
theorem l_mt {h K : ia_H} {G G2 : Nat} (hG : G2 ≤ 41) {Z : Option Value → ia_H → Prop} (e6 : K.1 52 6 = nI G2) (hZ : ∀ (F : ia_H) (a2 : Option Value), (∀ y, y ≠ 60 → F.1 y = K.1 y) → (∀ y, y ≠ 61 → F.2 y = K.2 y) → (∀ g, g < G → F.1 60 g = K.1 60 g ∧ F.2 61 g = K.2 61 g) → (∀ g, G ≤ g → g < G2 → F.1 60 g = nI g ∧ F.2 61 g = 0) → R_ ia_k_X8_test Z (56, [some (.ref 52), some (.int 1), a2, none], [], F)) : ∀ (k g : Nat) (F : ia_H), g + k = G2 → G ≤ g → (∀ y, y ≠ 60 → F.1 y = K.1 y) → (∀ y, y ≠ 61 → F.2 y = K.2 y) → (∀ i, i < G → F.1 60 i = K.1 60 i ∧ F.2 61 i = K.2 61 i) → (∀ i, G ≤ i → i < g → F.1 60 i = nI i ∧ F.2 61 i = 0) → R_ ia_k_X8_test Z (28, [some (.ref 52), some (.int 1), some (.int (nI g)), none], [], F) := by
  intro k
  induction k with
  | zero =>
    intro g F hk hg f1 f2 f3 f4
    have hk : g = G2 := by omega
    subst hk
    have e : F.1 52 6 = nI g := by rw [f1 52 (by decide)]; exact e6
    refine ia_walk (fun pc => Nat.beq pc 28 || Nat.beq pc 56) 60 (fun X hX => ?_)
    conv => whnf
    refine And.intro (fun c => ?_) (fun c => ?_)
    · exact absurd (show nI g < F.1 52 6 from c) (by rw [e]; exact nI_nlt (Nat.le_refl _) (by omega))
    · conv => whnf
      exact hX _ (hZ F _ f1 f2 f3 f4)
  | succ k ih =>
    intro g F hk hg f1 f2 f3 f4
    have e : F.1 52 6 = nI G2 := by rw [f1 52 (by decide)]; exact e6
    refine ia_walk (fun pc => Nat.beq pc 28 || Nat.beq pc 56) 60 (fun X hX => ?_)
    conv => whnf
    refine And.intro (fun c => ?_) (fun c => ?_)
    · conv => whnf
      refine Exists.intro _ (And.intro (And.intro rfl (by omega)) ?_)
      conv => whnf
      refine Exists.intro _ (And.intro (And.intro rfl (by omega)) ?_)
      conv => whnf
      rw [nI_1]
      refine hX _ (ih (g + 1) _ (by omega) (by omega) (fun y hy => ?_) (fun y hy => ?_) (fun i hi => ?_) (fun i h1 h2 => ?_))
      · show (if y = 60 then _ else F.1 y) = _
        rw [if_neg hy]; exact f1 y hy
      · show (if y = 61 then _ else F.2 y) = _
        rw [if_neg hy]; exact f2 y hy
      · show upd (F.1 60) g (nI g) i = _ ∧ vp_updL (F.2 61) g 0 i = _
        rw [updn (by omega), show vp_updL (F.2 61) g 0 i = F.2 61 i from if_neg (by omega)]
        exact f3 i hi
      · show upd (F.1 60) g (nI g) i = _ ∧ vp_updL (F.2 61) g 0 i = _
        by_cases ei : i = g
        · rw [ei, updp]
          exact ⟨rfl, if_pos rfl⟩
        · rw [updn ei, show vp_updL (F.2 61) g 0 i = F.2 61 i from if_neg ei]
          exact f4 i h1 (by omega)
    · exact absurd (show nI g < F.1 52 6 by rw [e]; exact nI_lt (by omega) (by omega)) c
theorem j_test {h : ia_H} (hj : Jx h) : JQ 66 [.ref 0] 114 [.ref 52] h := by
  obtain ⟨⟨ts, u, p, k1, k2, k3, k4, k5, k6, k7, k8, k9⟩, ⟨L, t1, t2, t3, t4⟩, hpn⟩ := hj
  have hks : KS h ts u p := ⟨k1, k2, k3, k4, k5, k6, k7, k8, k9⟩
  have hb : ∀ i, i < L → byR (h.1 3 i) := fun i hi => (t4 i hi).2
  obtain ⟨x1, x2, x3, x4⟩ := lo_ok (f := h.1 3) t1 k1
  obtain ⟨r1, H1, ev1, z1, pl, z2⟩ := v_readLone hb k1 k2 k7 t1 t2
  subst z1
  generalize hTX : loT (h.1 3) L (ts u) = tx at *
  have z20 := z2
  obtain ⟨⟨c1, c2⟩, c3, c4, c5, c6, c7, c8, c9⟩ := z2
  have g1 : ∀ y, 52 ≤ y → (hsI H1 2 (upd (H1.1 2) 1 0)).1 y = h.1 y := fun y hy => by
    rw [hsI_ne H1 _ (by omega)]
    exact c1 y (by omega) (by omega) (by omega)
  obtain ⟨q1, K1, evm, m1⟩ := m_readsOne (f := h.1 3) k1 (mr_rd k3 z20) t1 (by rw [g1 52 (by decide)]; exact t3) (fun j hj => by rw [g1 53 (by decide)]; exact ⟨(t4 j hj).1.symm, (t4 j hj).2⟩)
  rw [hTX] at m1
  by_cases hf : tx.1 = 0
  · obtain ⟨x5, x6⟩ := x4 hf
    have oG := x2.2.1
    obtain ⟨o1, o2, o3, o4⟩ := x2.2.2.2.2 (tdN (ts u)) (by omega)
    obtain ⟨d1, d2, d3, d4⟩ := c7.2.2 (tdN (ts u)) (by omega)
    have e47 : H1.1 4 7 = nI (tdN (ts u)) := by rw [c1 4 (by decide) (by decide) (by decide)]; exact k2.2.1
    have vw := v_weigh (hsI H1 2 (upd (H1.1 2) 1 0)) (tdN (ts u)) (tdA tx.2 (tdN (ts u))) (tdB tx.2 (tdN (ts u))) x6 (by omega) (by omega) d1 d2
    have e27 : (hsI H1 2 (upd (H1.1 2) 1 0)).1 27 = h.1 27 := c1 27 (by decide) (by decide) (by decide)
    have e28 : (hsI H1 2 (upd (H1.1 2) 1 0)).2 28 = h.2 28 := c2 28 (by decide)
    have e9 : (hsI H1 2 (upd (H1.1 2) 1 0)).2 9 (tdN (ts u)) = tdM tx.2 (tdN (ts u)) := d3
    rw [e27, e28, e9] at vw
    obtain ⟨sd, A, B, hw, hgp, hcn⟩ := k4
    obtain ⟨l, p1, p2, p3, p4, p5⟩ := hgp
    have hwm := wg_mj p1 oG o1 o2 (fun g a b => p2 g (by have := x1.1; omega) b) o4
    refine ⟨some (.int (wgF (h.1 27) (h.2 28) (tdA tx.2 (tdN (ts u))) (tdB tx.2 (tdN (ts u))) (tdM tx.2 (tdN (ts u))))), hsI H1 2 (upd (H1.1 2) 1 0), ?_, ?_⟩
    · have hV : V_ 66 [.ref 0] h (Zi_ (wgF (h.1 27) (h.2 28) (tdA tx.2 (tdN (ts u))) (tdB tx.2 (tdN (ts u))) (tdM tx.2 (tdN (ts u)))) (hsI H1 2 (upd (H1.1 2) 1 0))) := by
        refine ia_V_in ia_k_X7_test [some (.ref 0), none] rfl rfl (Nat.le_of_ble_eq_true rfl) rfl ?_
        refine ia_walk (fun _ => false) 60 (fun X hX => ?_)
        conv => whnf
        refine Exists.intro (_, _) (And.intro ev1 ?_)
        conv => whnf
        refine And.intro (fun b => ?_) (fun b => ?_)
        · conv => whnf
          have evw := ia_callE vw
          rw [← e47] at evw
          refine Exists.intro (_, _) (And.intro evw ?_)
          conv => whnf
          exact ⟨rfl, rfl⟩
        · exact absurd (show nI tx.1 = 0 by rw [hf]; rfl) b
      exact ia_callE hV
    · rcases m1 with ⟨m1, m2, pm, m3⟩ | ⟨m1, -⟩
      · subst m2
        have m30 := m3
        obtain ⟨⟨n1, n2, n3⟩, n4, n5, n6, n7, n8⟩ := m3
        obtain ⟨y1, y2, y3, y4⟩ := n7.2 (tdN (ts u)) (by omega)
        have eG0 : (hsI K1 52 (upd (K1.1 52) 1 0)).1 52 4 = nI (tdG (ts u)) := by
          show K1.1 52 4 = _
          rw [n3 4 (by decide) (by decide) (by decide) (by decide) (by decide), g1 52 (by decide)]; exact k3.1
        have eN0 : K1.1 52 10 = nI (tdN (ts u)) := by
          rw [n3 10 (by decide) (by decide) (by decide) (by decide) (by decide), g1 52 (by decide)]; exact k3.2.1
        have hGG := x1.1
        have lp := l_mt (h := h) (K := hsI K1 52 (upd (K1.1 52) 1 0)) (G := tdG (ts u)) (G2 := tdG tx.2) oG (Z := fun r2 h2 => r2 = some (.int (wgF (h.1 27) (h.2 28) (tdA tx.2 (tdN (ts u))) (tdB tx.2 (tdN (ts u))) (tdM tx.2 (tdN (ts u))))) ∧ Jx h2) n5 (fun F a2 f1 f2 f3 f4 => ?_) (tdG tx.2 - tdG (ts u)) (tdG (ts u)) (hsI K1 52 (upd (K1.1 52) 1 0)) (by omega) (Nat.le_refl _) (fun _ _ => rfl) (fun _ _ => rfl) (fun _ _ => ⟨rfl, rfl⟩) (fun i h1 h2 => by omega)
        · rw [← eG0] at lp
          refine ia_V_in ia_k_X8_test [some (.ref 52), none, none, none] rfl rfl (Nat.le_of_ble_eq_true rfl) rfl ?_
          refine ia_walk (fun pc => Nat.beq pc 28) 60 (fun X hX => ?_)
          conv => whnf
          refine Exists.intro (_, _) (And.intro evm ?_)
          conv => whnf
          refine And.intro (fun b => ?_) (fun b => ?_)
          · exact absurd (show (1 : Int32) = 0 from b) (by decide)
          · conv => whnf
            exact hX _ (lp)
        · have hF52 : F.1 52 = upd (K1.1 52) 1 0 := f1 52 (by decide)
          have eF4 : F.1 52 4 = nI (tdG (ts u)) := by rw [hF52]; exact eG0
          have eF6 : F.1 52 6 = nI (tdG tx.2) := by rw [hF52]; exact n5
          have eF10 : F.1 52 10 = nI (tdN (ts u)) := by rw [hF52]; exact eN0
          have e56 : F.1 56 = K1.1 56 := f1 56 (by decide)
          have e57 : F.1 57 = K1.1 57 := f1 57 (by decide)
          have e58 : F.2 58 = K1.2 58 := f2 58 (by decide)
          have vj := v_judgedAs (hsI F 52 (upd (F.1 52) 4 (F.1 52 6))) (tdN (ts u)) (tdA tx.2 (tdN (ts u))) (tdB tx.2 (tdN (ts u))) (tdG tx.2) (by omega) (by omega) (by omega) oG eF6 (by show F.1 56 _ = _; rw [e56]; exact y1) (by show F.1 57 _ = _; rw [e57]; exact y2)
          have e58v : (hsI F 52 (upd (F.1 52) 4 (F.1 52 6))).2 58 (tdN (ts u)) = tdM tx.2 (tdN (ts u)) := by
            show F.2 58 _ = _
            rw [e58]; exact y3
          have emj : mjF ((hsI F 52 (upd (F.1 52) 4 (F.1 52 6))).1 60) ((hsI F 52 (upd (F.1 52) 4 (F.1 52 6))).2 61) (tdG tx.2) (tdA tx.2 (tdN (ts u))) (tdB tx.2 (tdN (ts u))) (tdM tx.2 (tdN (ts u))) = wgF (h.1 27) (h.2 28) (tdA tx.2 (tdN (ts u))) (tdB tx.2 (tdN (ts u))) (tdM tx.2 (tdN (ts u))) := by
            rw [hwm]
            refine mjF_congr o1 o2 (fun g hg => ?_)
            show F.1 60 g = h.1 27 g ∧ F.2 61 g = h.2 28 g
            by_cases q : g < tdG (ts u)
            · rw [(f3 g q).1, (f3 g q).2]
              show K1.1 60 g = _ ∧ K1.2 61 g = _
              rw [n1 60 (by decide) (by decide) (by decide) (by decide) (by decide) (by decide), g1 60 (by decide), n2 61 (by decide) (by decide)]
              have e61 : (hsI H1 2 (upd (H1.1 2) 1 0)).2 61 = h.2 61 := c2 61 (by decide)
              rw [e61]
              exact p4 g q
            · obtain ⟨f6, f7⟩ := f4 g (by omega) hg
              rw [f6, f7]
              have lg := p2 g (by omega) (by omega)
              have := p1.1 g (by omega)
              rw [lg] at this
              exact ⟨this.2.1.symm, this.2.2.2.symm⟩
          rw [e58v, emj] at vj
          have hJ2 : Jx (hsI (hsI F 52 (upd (F.1 52) 4 (F.1 52 6))) 52 (upd (upd (F.1 52) 4 (F.1 52 6)) 4 (F.1 52 4))) := by
            refine rd_J hks hpn z20 x1 m30 x1 (fun y a b => ?_) (fun y a => ?_) (fun j hj => ?_) ?_ (fun g hg => ?_)
            · show (if y = 52 then _ else if y = 52 then _ else F.1 y) = _
              rw [if_neg a, if_neg a, f1 y b]
              exact hsI_ne K1 _ a
            · exact f2 y a
            · show upd (upd (F.1 52) 4 _) 4 _ j = _
              rw [hF52]
              by_cases q : j = 4
              · rw [q, updp]; rfl
              · rw [updn q, updn q, updn hj]
            · show F.1 52 1 = 0
              rw [hF52]
              rfl
            · exact f3 g hg
          refine ia_walk (fun _ => false) 60 (fun X hX => ?_)
          conv => whnf
          have evj := ia_callE vj
          rw [← eF10] at evj
          refine Exists.intro (_, _) (And.intro evj ?_)
          conv => whnf
          exact ⟨rfl, hJ2⟩
      · exact absurd hf m1
  · have hft : ¬ nI tx.1 = 0 := fun z => hf ((nI_z (by omega)).mp z)
    refine ⟨some (.int (-2 - nI tx.1)), hsI H1 2 (upd (H1.1 2) 1 0), ?_, ?_⟩
    · have hV : V_ 66 [.ref 0] h (fun r h' => r = some (.int (-2 - nI tx.1)) ∧ h' = hsI H1 2 (upd (H1.1 2) 1 0)) := by
        refine ia_V_in ia_k_X7_test [some (.ref 0), none] rfl rfl (Nat.le_of_ble_eq_true rfl) rfl ?_
        refine ia_walk (fun _ => false) 60 (fun X hX => ?_)
        conv => whnf
        refine Exists.intro (_, _) (And.intro ev1 ?_)
        conv => whnf
        refine And.intro (fun b => ?_) (fun b => ?_)
        · exact absurd b hft
        · conv => whnf
          exact ⟨rfl, rfl⟩
      exact ia_callE hV
    · rcases m1 with ⟨m1, -⟩ | ⟨m1, m2, m3, d', p', m4, m5⟩
      · exact absurd m1 hf
      · subst m2
        have hJ2 : Jx (hsI K1 52 (upd (K1.1 52) 1 0)) := rd_J hks hpn z20 x1 m4 m5 (fun y a _ => hsI_ne K1 _ a) (fun _ _ => rfl) (fun j hj => updn hj) rfl (fun _ _ => ⟨rfl, rfl⟩)
        refine ia_V_in ia_k_X8_test [some (.ref 52), none, none, none] rfl rfl (Nat.le_of_ble_eq_true rfl) rfl ?_
        refine ia_walk (fun _ => false) 60 (fun X hX => ?_)
        conv => whnf
        refine Exists.intro (_, _) (And.intro evm ?_)
        conv => whnf
        refine And.intro (fun b => ?_) (fun b => ?_)
        · conv => whnf
          refine ⟨?_, hJ2⟩
          rw [← m3]
          rfl
        · exact absurd rfl b
