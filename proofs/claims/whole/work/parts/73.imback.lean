/-! image and back, both sides -/
theorem m_imB {h : ia_H} {x : Int32} (hb : bad x 2) : V_ 130 [.ref 52, .int x] h (Z_ (.int (-1)) h) := by
  have hin := m_isInB h x 1 (by decide) 1 (by decide) hb
  refine ia_V_in ia_k_X8_image [some (.ref 52), some (.int x)] rfl rfl (Nat.le_of_ble_eq_true rfl) rfl ?_
  refine ia_walk (fun _ => false) 60 (fun X hX => ?_)
  conv => whnf
  refine Exists.intro (_, _) (And.intro (ia_callE (hin)) ?_)
  conv => whnf
  refine And.intro (fun c0 => ?_) (fun c0 => ?_)
  · conv => whnf
    exact ⟨rfl, rfl⟩
  · exact absurd rfl c0
theorem m_baB {h : ia_H} {x : Int32} (hb : bad x 2) : V_ 131 [.ref 52, .int x] h (Z_ (.int (-1)) h) := by
  have hin := m_isInB h x 1 (by decide) 1 (by decide) hb
  refine ia_V_in ia_k_X8_back [some (.ref 52), some (.int x)] rfl rfl (Nat.le_of_ble_eq_true rfl) rfl ?_
  refine ia_walk (fun _ => false) 60 (fun X hX => ?_)
  conv => whnf
  refine Exists.intro (_, _) (And.intro (ia_callE (hin)) ?_)
  conv => whnf
  refine And.intro (fun c0 => ?_) (fun c0 => ?_)
  · conv => whnf
    exact ⟨rfl, rfl⟩
  · exact absurd rfl c0
theorem j_image0 {h : ia_H} (hj : Jx h) : JQ 86 [.ref 0, .int 0] 130 [.ref 52, .int 0] h := by
  obtain ⟨⟨ts, u, p, k1, k2, k3, k4, k5, k6, k7, k8, k9⟩, ⟨L, t1, t2, t3, t4⟩, p1, p2⟩ := hj
  obtain ⟨r, h1, ev, z1, z2, z3, z4, z5, z6⟩ := v_image0 k1 k2 k7
  refine ⟨r, h1, ev, ?_⟩
  have mr1 : mRep h1 (ts u) := mRep_fr k3 (by rw [z5 52 (by decide) (by decide)]) (by rw [z5 52 (by decide) (by decide)]) (z5 54 (by decide) (by decide)) (z5 56 (by decide) (by decide)) (z5 57 (by decide) (by decide)) (z5 59 (by decide) (by decide)) (z6 58 (by decide))
  obtain ⟨r2, h2, ev2, y1, y2, y3⟩ := m_keeps k1 mr1 20 (by decide)
  subst y1
  have e10 : h2.1 52 10 = nI (tdN (ts u)) := by rw [y3.1 52 (by decide)]; exact mr1.2.1
  have hin := m_isInN h1 0 1 (by decide) 1 (by decide) ⟨0, by decide, rfl⟩
  have d1 : ∀ y, (y < 11 ∨ 11 + 6 < y) → y ≠ 51 → y ≠ 63 → h2.1 y = h.1 y := fun y q1 q2 q3 => by rw [y3.1 y q3, z5 y q1 q2]
  have d2 : ∀ y, y ≠ 16 → y ≠ 64 → h2.2 y = h.2 y := fun y q1 q2 => by rw [y3.2.1 y q2, z6 y q1]
  have hJ2 : Jx (hsI h2 65 (upd (h2.1 65) 0 1)) := by
    refine ⟨⟨ts, u, p, k1, ?_, ?_, ?_, ?_, ?_, ?_, ?_, ?_⟩, ⟨L, t1, ?_, ?_, fun j hj => ?_⟩, fun i hi => ?_, fun i hi => ?_⟩
    · exact cRep_fr k2 (fun y q1 q2 => by
        show (if y = 65 then _ else h2.1 y) = _
        rw [if_neg (by omega)]
        exact d1 y (by omega) (by omega) (by omega)) (d2 9 (by decide) (by decide))
    · exact mRep_fr k3 (by show h2.1 52 4 = _; rw [d1 52 (by decide) (by decide) (by decide)]) (by show h2.1 52 10 = _; rw [d1 52 (by decide) (by decide) (by decide)]) (d1 54 (by decide) (by decide) (by decide)) (d1 56 (by decide) (by decide) (by decide)) (d1 57 (by decide) (by decide) (by decide)) (d1 59 (by decide) (by decide) (by decide)) (d2 58 (by decide) (by decide))
    · refine dvOk_fr k4 ⟨by show h2.1 52 4 = _; rw [d1 52 (by decide) (by decide) (by decide)], by show h2.1 52 10 = _; rw [d1 52 (by decide) (by decide) (by decide)]⟩ ⟨by show h2.1 4 6 = _; rw [d1 4 (by decide) (by decide) (by decide)], by show h2.1 4 7 = _; rw [d1 4 (by decide) (by decide) (by decide)]⟩ (fun s _ => ?_) (fun g _ => ?_) (d1 26 (by decide) (by decide) (by decide)) (d1 27 (by decide) (by decide) (by decide)) (d2 28 (by decide) (by decide)) (fun y q1 q2 => ?_)
      · show h2.1 56 s = _ ∧ h2.1 57 s = _ ∧ h2.1 62 s = _ ∧ h2.1 7 s = _ ∧ h2.1 8 s = _
        rw [d1 56 (by decide) (by decide) (by decide), d1 57 (by decide) (by decide) (by decide), d1 62 (by decide) (by decide) (by decide), d1 7 (by decide) (by decide) (by decide), d1 8 (by decide) (by decide) (by decide)]
        exact ⟨rfl, rfl, rfl, rfl, rfl⟩
      · show h2.1 60 g = _ ∧ h2.2 61 g = _
        rw [d1 60 (by decide) (by decide) (by decide), d2 61 (by decide) (by decide)]
        exact ⟨rfl, rfl⟩
      · show (if y = 65 then _ else h2.1 y) = _
        rw [if_neg (by omega)]
        exact d1 y (by omega) (by omega) (by omega)
    · exact aC_fr k5 (fun y q1 q2 => by
        show (if y = 65 then _ else h2.1 y) = _
        rw [if_neg (by omega)]
        exact d1 y (by omega) (by omega) (by omega))
    · refine aM_fr k6 (by show h2.1 52 22 = _; rw [d1 52 (by decide) (by decide) (by decide)]) (fun i hi => ?_) (fun i hi => ?_)
      · show h2.1 63 i = _
        rw [y3.2.2.1 i (by omega), z5 63 (by decide) (by decide)]
      · show h2.2 64 i = _
        rw [y3.2.2.2 i (by omega), z6 64 (by decide)]
    · exact ltB_fr k7 (d1 5 (by decide) (by decide) (by decide))
    · refine Or.inr ⟨?_, ?_, ts u, k1, ?_, ?_, ?_⟩
      · show h2.1 51 0 = 1
        rw [y3.1 51 (by decide), z4]
        rfl
      · rfl
      · exact cRep_fr z2 (fun y q1 q2 => by
          show (if y = 65 then _ else h2.1 y) = _
          rw [if_neg (by omega)]
          exact y3.1 y (by omega)) (y3.2.1 _ (by decide))
      · exact ltB_fr z3 (y3.1 _ (by decide))
      · exact hRep_fr k1 y2 (fun _ _ => rfl) (fun _ _ => rfl)
    · refine imOk_fr k9 (by decide) ?_ ?_ (fun y q1 q2 => ?_) (d2 _ (by decide) (by decide)) (fun i hi => ?_) (fun i hi => ?_)
      · show h2.1 51 1 = _
        rw [y3.1 51 (by decide), z4]
        rfl
      · show upd (h2.1 65) 0 1 1 = _
        rw [updn (by decide), d1 65 (by decide) (by decide) (by decide)]
      · show (if y = 65 then _ else h2.1 y) = _
        rw [if_neg (by omega)]
        exact d1 y (by omega) (by omega) (by omega)
      · show h2.1 63 _ = _
        rw [y3.2.2.1 _ (by omega), z5 63 (by decide) (by decide)]
      · show h2.2 64 _ = _
        rw [y3.2.2.2 _ (by omega), z6 64 (by decide)]
    · show h2.1 2 1 = _
      rw [d1 2 (by decide) (by decide) (by decide)]; exact t2
    · show h2.1 52 1 = _
      rw [d1 52 (by decide) (by decide) (by decide)]; exact t3
    · show h2.1 3 j = h2.1 53 j ∧ byR (h2.1 3 j)
      rw [d1 3 (by decide) (by decide) (by decide), d1 53 (by decide) (by decide) (by decide)]; exact t4 j hj
    · show h2.1 48 i = h2.1 75 i
      rw [d1 48 (by decide) (by decide) (by decide), d1 75 (by decide) (by decide) (by decide)]; exact p1 i hi
    · show h2.1 49 i = h2.1 74 i
      rw [d1 49 (by decide) (by decide) (by decide), d1 74 (by decide) (by decide) (by decide)]; exact p2 i hi
  refine ia_V_in ia_k_X8_image [some (.ref 52), some (.int 0)] rfl rfl (Nat.le_of_ble_eq_true rfl) rfl ?_
  refine ia_walk (fun _ => false) 60 (fun X hX => ?_)
  conv => whnf
  refine Exists.intro (_, _) (And.intro (ia_callE (hin)) ?_)
  conv => whnf
  refine And.intro (fun c0 => ?_) (fun c0 => ?_)
  · exact absurd (show (1 : Int32) = 0 from c0) (by decide)
  · conv => whnf
    refine Exists.intro (_, _) (And.intro ev2 ?_)
    conv => whnf
    refine Exists.intro 0 (And.intro (And.intro rfl (by decide)) ?_)
    conv => whnf
    refine ⟨?_, hJ2⟩
    rw [z1]
    exact congrArg (fun v => some (Value.int v)) e10
theorem j_back0 {h : ia_H} (hj : Jx h) : JQ 87 [.ref 0, .int 0] 131 [.ref 52, .int 0] h := by
  obtain ⟨⟨ts, u, p, k1, k2, k3, k4, k5, k6, k7, k8, k9⟩, ht, hpn⟩ := hj
  have hj : Jx h := ⟨⟨ts, u, p, k1, k2, k3, k4, k5, k6, k7, k8, k9⟩, ht, hpn⟩
  rcases k8 with ⟨i1, i2⟩ | ⟨i1, i2, t, i3, i4, i5, i6⟩
  · refine JQ_P hj (P_of (v_backN0 i1) ?_)
    have hin := m_isInN h 0 1 (by decide) 1 (by decide) ⟨0, by decide, rfl⟩
    refine ia_V_in ia_k_X8_back [some (.ref 52), some (.int 0)] rfl rfl (Nat.le_of_ble_eq_true rfl) rfl ?_
    refine ia_walk (fun _ => false) 60 (fun X hX => ?_)
    conv => whnf
    refine Exists.intro (_, _) (And.intro (ia_callE (hin)) ?_)
    conv => whnf
    refine And.intro (fun c0 => ?_) (fun c0 => ?_)
    · exact absurd (show (1 : Int32) = 0 from c0) (by decide)
    · conv => whnf
      refine Exists.intro 0 (And.intro (And.intro rfl (by decide)) ?_)
      conv => whnf
      refine And.intro (fun c1 => ?_) (fun c1 => ?_)
      · conv => whnf
        exact ⟨rfl, rfl⟩
      · exact absurd i2 c1
  · obtain ⟨r, h1, ev, z1, z2, z3, z4, z5, z6, z7⟩ := v_back0 i3 i4 i5 i1 k5.2.1 k5.2.2.1 (fun _ => t)
    refine ⟨r, h1, ev, ?_⟩
    have hh : hRep h1 20 t := hRep_fr i3 i6 (fun m _ => by rw [z6 63 (by omega)]) (fun m _ => by rw [z7 64 (by decide) (by decide)])
    obtain ⟨r2, h2, ev2, y1, y2, y3, y4⟩ := m_goes i3 20 (by decide) hh
    subst y1
    have e10 : h2.1 52 10 = nI (tdN t) := y2.2.1
    have hin := m_isInN h1 0 1 (by decide) 1 (by decide) ⟨0, by decide, rfl⟩
    have e65 : h1.1 65 0 = 1 := by rw [z6 65 (by omega)]; exact i2
    have hJ2 : Jx (hsI h2 52 (upd (h2.1 52) 22 0)) := by
      refine Jx_act hj (ts := fun _ => t) (u := 0) (p := p) i3 z2 z5 z4 z3 z6 z7 ?_ ⟨by decide, rfl, fun k hk => absurd hk (Nat.not_lt_zero k)⟩ ?_ ⟨fun y hy => ?_, fun y hy => ?_, fun j j1 j2 j3 => ?_, fun i hi => ?_, fun i hi => ?_⟩
      · exact mRep_fr y2 rfl rfl rfl rfl rfl rfl rfl
      · exact y3
      · show (if y = 52 then _ else h2.1 y) = _
        rw [if_neg (by omega)]
        exact y4.1 y (by omega) (by omega) (by omega) (by omega) (by omega) (by omega) (by omega)
      · exact y4.2.1 y (by omega) (by omega)
      · show upd (h2.1 52) 22 0 j = _
        rw [updn j3]
        exact y4.2.2 j j1 j2
      · show h2.1 63 i = _
        rw [y4.1 63 (by decide) (by decide) (by decide) (by decide) (by decide) (by decide) (by decide)]
      · show h2.2 64 i = _
        rw [y4.2.1 64 (by decide) (by decide)]
    refine ia_V_in ia_k_X8_back [some (.ref 52), some (.int 0)] rfl rfl (Nat.le_of_ble_eq_true rfl) rfl ?_
    refine ia_walk (fun _ => false) 60 (fun X hX => ?_)
    conv => whnf
    refine Exists.intro (_, _) (And.intro (ia_callE (hin)) ?_)
    conv => whnf
    refine And.intro (fun c0 => ?_) (fun c0 => ?_)
    · exact absurd (show (1 : Int32) = 0 from c0) (by decide)
    · conv => whnf
      refine Exists.intro 0 (And.intro (And.intro rfl (by decide)) ?_)
      conv => whnf
      refine And.intro (fun c1 => ?_) (fun c1 => ?_)
      · exact absurd (show h1.1 65 0 = 0 from c1) (by rw [e65]; decide)
      · conv => whnf
        refine Exists.intro (_, _) (And.intro ev2 ?_)
        conv => whnf
        refine ⟨?_, hJ2⟩
        rw [z1]
        exact congrArg (fun v => some (Value.int v)) e10
theorem j_image1 {h : ia_H} (hj : Jx h) : JQ 86 [.ref 0, .int 1] 130 [.ref 52, .int 1] h := by
  obtain ⟨⟨ts, u, p, k1, k2, k3, k4, k5, k6, k7, k8, k9⟩, ⟨L, t1, t2, t3, t4⟩, p1, p2⟩ := hj
  obtain ⟨r, h1, ev, z1, z2, z3, z4, z5, z6⟩ := v_image1 k1 k2 k7
  refine ⟨r, h1, ev, ?_⟩
  have mr1 : mRep h1 (ts u) := mRep_fr k3 (by rw [z5 52 (by decide) (by decide)]) (by rw [z5 52 (by decide) (by decide)]) (z5 54 (by decide) (by decide)) (z5 56 (by decide) (by decide)) (z5 57 (by decide) (by decide)) (z5 59 (by decide) (by decide)) (z6 58 (by decide))
  obtain ⟨r2, h2, ev2, y1, y2, y3⟩ := m_keeps k1 mr1 21 (by decide)
  subst y1
  have e10 : h2.1 52 10 = nI (tdN (ts u)) := by rw [y3.1 52 (by decide)]; exact mr1.2.1
  have hin := m_isInN h1 1 1 (by decide) 1 (by decide) ⟨1, by decide, rfl⟩
  have d1 : ∀ y, (y < 18 ∨ 18 + 6 < y) → y ≠ 51 → y ≠ 63 → h2.1 y = h.1 y := fun y q1 q2 q3 => by rw [y3.1 y q3, z5 y q1 q2]
  have d2 : ∀ y, y ≠ 23 → y ≠ 64 → h2.2 y = h.2 y := fun y q1 q2 => by rw [y3.2.1 y q2, z6 y q1]
  have hJ2 : Jx (hsI h2 65 (upd (h2.1 65) 1 1)) := by
    refine ⟨⟨ts, u, p, k1, ?_, ?_, ?_, ?_, ?_, ?_, ?_, ?_⟩, ⟨L, t1, ?_, ?_, fun j hj => ?_⟩, fun i hi => ?_, fun i hi => ?_⟩
    · exact cRep_fr k2 (fun y q1 q2 => by
        show (if y = 65 then _ else h2.1 y) = _
        rw [if_neg (by omega)]
        exact d1 y (by omega) (by omega) (by omega)) (d2 9 (by decide) (by decide))
    · exact mRep_fr k3 (by show h2.1 52 4 = _; rw [d1 52 (by decide) (by decide) (by decide)]) (by show h2.1 52 10 = _; rw [d1 52 (by decide) (by decide) (by decide)]) (d1 54 (by decide) (by decide) (by decide)) (d1 56 (by decide) (by decide) (by decide)) (d1 57 (by decide) (by decide) (by decide)) (d1 59 (by decide) (by decide) (by decide)) (d2 58 (by decide) (by decide))
    · refine dvOk_fr k4 ⟨by show h2.1 52 4 = _; rw [d1 52 (by decide) (by decide) (by decide)], by show h2.1 52 10 = _; rw [d1 52 (by decide) (by decide) (by decide)]⟩ ⟨by show h2.1 4 6 = _; rw [d1 4 (by decide) (by decide) (by decide)], by show h2.1 4 7 = _; rw [d1 4 (by decide) (by decide) (by decide)]⟩ (fun s _ => ?_) (fun g _ => ?_) (d1 26 (by decide) (by decide) (by decide)) (d1 27 (by decide) (by decide) (by decide)) (d2 28 (by decide) (by decide)) (fun y q1 q2 => ?_)
      · show h2.1 56 s = _ ∧ h2.1 57 s = _ ∧ h2.1 62 s = _ ∧ h2.1 7 s = _ ∧ h2.1 8 s = _
        rw [d1 56 (by decide) (by decide) (by decide), d1 57 (by decide) (by decide) (by decide), d1 62 (by decide) (by decide) (by decide), d1 7 (by decide) (by decide) (by decide), d1 8 (by decide) (by decide) (by decide)]
        exact ⟨rfl, rfl, rfl, rfl, rfl⟩
      · show h2.1 60 g = _ ∧ h2.2 61 g = _
        rw [d1 60 (by decide) (by decide) (by decide), d2 61 (by decide) (by decide)]
        exact ⟨rfl, rfl⟩
      · show (if y = 65 then _ else h2.1 y) = _
        rw [if_neg (by omega)]
        exact d1 y (by omega) (by omega) (by omega)
    · exact aC_fr k5 (fun y q1 q2 => by
        show (if y = 65 then _ else h2.1 y) = _
        rw [if_neg (by omega)]
        exact d1 y (by omega) (by omega) (by omega))
    · refine aM_fr k6 (by show h2.1 52 22 = _; rw [d1 52 (by decide) (by decide) (by decide)]) (fun i hi => ?_) (fun i hi => ?_)
      · show h2.1 63 i = _
        rw [y3.2.2.1 i (by omega), z5 63 (by decide) (by decide)]
      · show h2.2 64 i = _
        rw [y3.2.2.2 i (by omega), z6 64 (by decide)]
    · exact ltB_fr k7 (d1 5 (by decide) (by decide) (by decide))
    · refine imOk_fr k8 (by decide) ?_ ?_ (fun y q1 q2 => ?_) (d2 _ (by decide) (by decide)) (fun i hi => ?_) (fun i hi => ?_)
      · show h2.1 51 0 = _
        rw [y3.1 51 (by decide), z4]
        rfl
      · show upd (h2.1 65) 1 1 0 = _
        rw [updn (by decide), d1 65 (by decide) (by decide) (by decide)]
      · show (if y = 65 then _ else h2.1 y) = _
        rw [if_neg (by omega)]
        exact d1 y (by omega) (by omega) (by omega)
      · show h2.1 63 _ = _
        rw [y3.2.2.1 _ (by omega), z5 63 (by decide) (by decide)]
      · show h2.2 64 _ = _
        rw [y3.2.2.2 _ (by omega), z6 64 (by decide)]
    · refine Or.inr ⟨?_, ?_, ts u, k1, ?_, ?_, ?_⟩
      · show h2.1 51 1 = 1
        rw [y3.1 51 (by decide), z4]
        rfl
      · rfl
      · exact cRep_fr z2 (fun y q1 q2 => by
          show (if y = 65 then _ else h2.1 y) = _
          rw [if_neg (by omega)]
          exact y3.1 y (by omega)) (y3.2.1 _ (by decide))
      · exact ltB_fr z3 (y3.1 _ (by decide))
      · exact hRep_fr k1 y2 (fun _ _ => rfl) (fun _ _ => rfl)
    · show h2.1 2 1 = _
      rw [d1 2 (by decide) (by decide) (by decide)]; exact t2
    · show h2.1 52 1 = _
      rw [d1 52 (by decide) (by decide) (by decide)]; exact t3
    · show h2.1 3 j = h2.1 53 j ∧ byR (h2.1 3 j)
      rw [d1 3 (by decide) (by decide) (by decide), d1 53 (by decide) (by decide) (by decide)]; exact t4 j hj
    · show h2.1 48 i = h2.1 75 i
      rw [d1 48 (by decide) (by decide) (by decide), d1 75 (by decide) (by decide) (by decide)]; exact p1 i hi
    · show h2.1 49 i = h2.1 74 i
      rw [d1 49 (by decide) (by decide) (by decide), d1 74 (by decide) (by decide) (by decide)]; exact p2 i hi
  refine ia_V_in ia_k_X8_image [some (.ref 52), some (.int 1)] rfl rfl (Nat.le_of_ble_eq_true rfl) rfl ?_
  refine ia_walk (fun _ => false) 60 (fun X hX => ?_)
  conv => whnf
  refine Exists.intro (_, _) (And.intro (ia_callE (hin)) ?_)
  conv => whnf
  refine And.intro (fun c0 => ?_) (fun c0 => ?_)
  · exact absurd (show (1 : Int32) = 0 from c0) (by decide)
  · conv => whnf
    refine Exists.intro (_, _) (And.intro ev2 ?_)
    conv => whnf
    refine Exists.intro 1 (And.intro (And.intro rfl (by decide)) ?_)
    conv => whnf
    refine ⟨?_, hJ2⟩
    rw [z1]
    exact congrArg (fun v => some (Value.int v)) e10
theorem j_back1 {h : ia_H} (hj : Jx h) : JQ 87 [.ref 0, .int 1] 131 [.ref 52, .int 1] h := by
  obtain ⟨⟨ts, u, p, k1, k2, k3, k4, k5, k6, k7, k8, k9⟩, ht, hpn⟩ := hj
  have hj : Jx h := ⟨⟨ts, u, p, k1, k2, k3, k4, k5, k6, k7, k8, k9⟩, ht, hpn⟩
  rcases k9 with ⟨i1, i2⟩ | ⟨i1, i2, t, i3, i4, i5, i6⟩
  · refine JQ_P hj (P_of (v_backN1 i1) ?_)
    have hin := m_isInN h 1 1 (by decide) 1 (by decide) ⟨1, by decide, rfl⟩
    refine ia_V_in ia_k_X8_back [some (.ref 52), some (.int 1)] rfl rfl (Nat.le_of_ble_eq_true rfl) rfl ?_
    refine ia_walk (fun _ => false) 60 (fun X hX => ?_)
    conv => whnf
    refine Exists.intro (_, _) (And.intro (ia_callE (hin)) ?_)
    conv => whnf
    refine And.intro (fun c0 => ?_) (fun c0 => ?_)
    · exact absurd (show (1 : Int32) = 0 from c0) (by decide)
    · conv => whnf
      refine Exists.intro 1 (And.intro (And.intro rfl (by decide)) ?_)
      conv => whnf
      refine And.intro (fun c1 => ?_) (fun c1 => ?_)
      · conv => whnf
        exact ⟨rfl, rfl⟩
      · exact absurd i2 c1
  · obtain ⟨r, h1, ev, z1, z2, z3, z4, z5, z6, z7⟩ := v_back1 i3 i4 i5 i1 k5.2.1 k5.2.2.1 (fun _ => t)
    refine ⟨r, h1, ev, ?_⟩
    have hh : hRep h1 21 t := hRep_fr i3 i6 (fun m _ => by rw [z6 63 (by omega)]) (fun m _ => by rw [z7 64 (by decide) (by decide)])
    obtain ⟨r2, h2, ev2, y1, y2, y3, y4⟩ := m_goes i3 21 (by decide) hh
    subst y1
    have e10 : h2.1 52 10 = nI (tdN t) := y2.2.1
    have hin := m_isInN h1 1 1 (by decide) 1 (by decide) ⟨1, by decide, rfl⟩
    have e65 : h1.1 65 1 = 1 := by rw [z6 65 (by omega)]; exact i2
    have hJ2 : Jx (hsI h2 52 (upd (h2.1 52) 22 0)) := by
      refine Jx_act hj (ts := fun _ => t) (u := 0) (p := p) i3 z2 z5 z4 z3 z6 z7 ?_ ⟨by decide, rfl, fun k hk => absurd hk (Nat.not_lt_zero k)⟩ ?_ ⟨fun y hy => ?_, fun y hy => ?_, fun j j1 j2 j3 => ?_, fun i hi => ?_, fun i hi => ?_⟩
      · exact mRep_fr y2 rfl rfl rfl rfl rfl rfl rfl
      · exact y3
      · show (if y = 52 then _ else h2.1 y) = _
        rw [if_neg (by omega)]
        exact y4.1 y (by omega) (by omega) (by omega) (by omega) (by omega) (by omega) (by omega)
      · exact y4.2.1 y (by omega) (by omega)
      · show upd (h2.1 52) 22 0 j = _
        rw [updn j3]
        exact y4.2.2 j j1 j2
      · show h2.1 63 i = _
        rw [y4.1 63 (by decide) (by decide) (by decide) (by decide) (by decide) (by decide) (by decide)]
      · show h2.2 64 i = _
        rw [y4.2.1 64 (by decide) (by decide)]
    refine ia_V_in ia_k_X8_back [some (.ref 52), some (.int 1)] rfl rfl (Nat.le_of_ble_eq_true rfl) rfl ?_
    refine ia_walk (fun _ => false) 60 (fun X hX => ?_)
    conv => whnf
    refine Exists.intro (_, _) (And.intro (ia_callE (hin)) ?_)
    conv => whnf
    refine And.intro (fun c0 => ?_) (fun c0 => ?_)
    · exact absurd (show (1 : Int32) = 0 from c0) (by decide)
    · conv => whnf
      refine Exists.intro 1 (And.intro (And.intro rfl (by decide)) ?_)
      conv => whnf
      refine And.intro (fun c1 => ?_) (fun c1 => ?_)
      · exact absurd (show h1.1 65 1 = 0 from c1) (by rw [e65]; decide)
      · conv => whnf
        refine Exists.intro (_, _) (And.intro ev2 ?_)
        conv => whnf
        refine ⟨?_, hJ2⟩
        rw [z1]
        exact congrArg (fun v => some (Value.int v)) e10
theorem j_image {h : ia_H} (hj : Jx h) (x : Int32) : JQ 86 [.ref 0, .int x] 130 [.ref 52, .int x] h := by
  rcases bad_or x (show 2 < 2 ^ 31 by decide) with hb | ⟨j, hj2, rfl⟩
  · exact JQ_P hj (P_of (v_imageB hb) (m_imB hb))
  · rcases (show j = 0 ∨ j = 1 by omega) with rfl | rfl
    · exact j_image0 hj
    · exact j_image1 hj
theorem j_back {h : ia_H} (hj : Jx h) (x : Int32) : JQ 87 [.ref 0, .int x] 131 [.ref 52, .int x] h := by
  rcases bad_or x (show 2 < 2 ^ 31 by decide) with hb | ⟨j, hj2, rfl⟩
  · exact JQ_P hj (P_of (v_backB hb) (m_baB hb))
  · rcases (show j = 0 ∨ j = 1 by omega) with rfl | rfl
    · exact j_back0 hj
    · exact j_back1 hj
