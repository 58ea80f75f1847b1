/-! retract, restore, undo, image, back: the reference, and both -/
def frO (h H : ia_H) : Prop := (∀ y, (y < 52 ∨ y = 53 ∨ y = 55 ∨ 65 ≤ y) → H.1 y = h.1 y) ∧ (∀ y, y < 52 → H.2 y = h.2 y) ∧ (∀ j, j ≠ 4 → j ≠ 10 → j ≠ 22 → H.1 52 j = h.1 52 j) ∧ (∀ i, 12980 ≤ i → H.1 63 i = h.1 63 i) ∧ ∀ i, 2400 ≤ i → H.2 64 i = h.2 64 i
theorem mRep_turn {h K : ia_H} {t : tdT} (hr : mRep h t) {s : Nat} {v : Int32} (hv : v = oI (!tdO t s)) (e4 : K.1 52 4 = h.1 52 4) (e10 : K.1 52 10 = h.1 52 10) (e54 : K.1 54 = h.1 54) (e56 : K.1 56 = h.1 56) (e57 : K.1 57 = h.1 57) (e58 : K.2 58 = h.2 58) (e59 : K.1 59 = upd (h.1 59) s v) : mRep K (tdTn t s) := by
  obtain ⟨r1, r2, r4, r5⟩ := hr
  refine ⟨by rw [e4]; exact r1, by rw [e10]; exact r2, by rw [e54]; exact r4, fun j hj => ?_⟩
  obtain ⟨q1, q2, q3, q4⟩ := r5 j hj
  show K.1 56 j = _ ∧ K.1 57 j = _ ∧ K.2 58 j = _ ∧ K.1 59 j = oI (if j = s then !tdO t j else tdO t j)
  rw [e56, e57, e58, e59]
  refine ⟨q1, q2, q3, ?_⟩
  by_cases hj2 : j = s
  · subst hj2
    rw [updp, if_pos rfl, hv]
  · rw [updn hj2, if_neg hj2, q4]
theorem m_turn {h : ia_H} {ts : Nat → tdT} {u : Nat} (hok : tdOk (ts u)) (hr : mRep h (ts u)) (ha : aM h ts u) {s : Nat} (hs : s < tdN (ts u)) {v : Int32} (hv : v = oI (!tdO (ts u) s)) : V_ 122 [.ref 52, .int (nI s), .int v] h (fun r h' => r = some (.int (nI (ct (fun j => decide (h'.1 62 j = 0)) (tdN (ts u))) + nI (ct (fun j => decide (h'.1 62 j = 1)) (tdN (ts u))))) ∧ mRep h' (tdTn (ts u) s) ∧ aM h' (tsP ts u (tdTn (ts u) s)) (uP u) ∧ mJ h' (tdTn (ts u) s) ∧ frO h h') := by
  have hn := hok.2.2.1
  have en := hr.2.1
  obtain ⟨r1, h1, ev1, z1, z2, z3⟩ := m_keepsAct hok hr ha (tdTn (ts u) s)
  subst z1
  have e52 := z3.2.2.1
  have rk : mRep (hsI h1 59 (upd (h1.1 59) s (vp_nar .boolean v))) (tdTn (ts u) s) := by
    refine mRep_turn hr (v := vp_nar .boolean v) (by rw [hv, narO]) (e52 4 (by decide)) (e52 10 (by decide)) (z3.1 54 (by decide) (by decide)) (z3.1 56 (by decide) (by decide)) (z3.1 57 (by decide) (by decide)) (z3.2.1 58 (by decide)) ?_
    show upd (h1.1 59) s (vp_nar .boolean v) = _
    rw [z3.1 59 (by decide) (by decide)]
  obtain ⟨r2, h2, ev2, w1, w2, w3⟩ := m_anew (tdTn_ok hok s) rk
  subst w1
  have f := w2.1
  have en2 : h2.1 52 10 = nI (tdN (ts u)) := by
    rw [f 52 (by decide) (by decide)]
    exact rk.2.1
  have hst := m_standing h2 (tdN (ts u)) hn en2
  have hres : mRep h2 (tdTn (ts u) s) ∧ aM h2 (tsP ts u (tdTn (ts u) s)) (uP u) ∧ mJ h2 (tdTn (ts u) s) ∧ frO h h2 := by
    refine ⟨mRep_fr rk (by rw [f 52 (by decide) (by decide)]) (by rw [f 52 (by decide) (by decide)]) (f 54 (by decide) (by decide)) (f 56 (by decide) (by decide)) (f 57 (by decide) (by decide)) (f 59 (by decide) (by decide)) (w2.2 58 (by decide)), aM_fr z2 (by rw [f 52 (by decide) (by decide)]; rfl) (fun i _ => by rw [f 63 (by decide) (by decide)]; rfl) (fun i _ => by rw [w2.2 64 (by decide)]; rfl), w3, fun y hy => ?_, fun y hy => ?_, fun j j1 j2 j3 => ?_, fun i hi => ?_, fun i hi => ?_⟩
    · rw [f y (by omega) (by omega)]
      show (if y = 59 then _ else h1.1 y) = _
      rw [if_neg (by omega)]
      exact z3.1 y (by omega) (by omega)
    · rw [w2.2 y (by omega)]
      exact z3.2.1 y (by omega)
    · rw [f 52 (by decide) (by decide)]
      exact e52 j j3
    · rw [f 63 (by decide) (by decide)]
      exact z3.2.2.2.1 i hi
    · rw [w2.2 64 (by decide)]
      exact z3.2.2.2.2 i hi
  refine ia_V_in ia_k_X8_turns [some (.ref 52), some (.int (nI s)), some (.int v)] rfl rfl (Nat.le_of_ble_eq_true rfl) rfl ?_
  refine ia_walk (fun _ => false) 60 (fun X hX => ?_)
  conv => whnf
  refine Exists.intro (_, _) (And.intro (ia_callE (m_isSt1 en (by omega) hs)) ?_)
  conv => whnf
  refine And.intro (fun c => ?_) (fun c => ?_)
  · exact absurd (show (1 : Int32) = 0 from c) (by decide)
  · conv => whnf
    refine Exists.intro _ (And.intro (And.intro rfl (by omega)) ?_)
    conv => whnf
    refine And.intro (fun c1 => ?_) (fun c1 => ?_)
    · exact absurd (show h.1 59 s = v from c1) (by
        rw [(hr.2.2.2 s hs).2.2.2, hv]
        cases tdO (ts u) s <;> decide)
    · conv => whnf
      refine Exists.intro (_, _) (And.intro ev1 ?_)
      conv => whnf
      refine Exists.intro s (And.intro (And.intro rfl (by omega)) ?_)
      conv => whnf
      refine Exists.intro (_, _) (And.intro ev2 ?_)
      conv => whnf
      refine Exists.intro (_, _) (And.intro (ia_callE (hst)) ?_)
      conv => whnf
      exact ⟨rfl, hres⟩
theorem m_turnN {h : ia_H} {t : tdT} (hok : tdOk t) (hr : mRep h t) {x v : Int32} (hb : bad x (tdN t) ∨ ∃ s, s < tdN t ∧ x = nI s ∧ v = oI (tdO t s)) : V_ 122 [.ref 52, .int x, .int v] h (Z_ (.int (-1)) h) := by
  have hn := hok.2.2.1
  have en := hr.2.1
  rcases hb with hb | ⟨s, hs, rfl, hv⟩
  · refine ia_V_in ia_k_X8_turns [some (.ref 52), some (.int x), some (.int v)] rfl rfl (Nat.le_of_ble_eq_true rfl) rfl ?_
    refine ia_walk (fun _ => false) 60 (fun X hX => ?_)
    conv => whnf
    refine Exists.intro (_, _) (And.intro (ia_callE (m_isSt0 en hb)) ?_)
    conv => whnf
    refine And.intro (fun c => ?_) (fun c => ?_)
    · conv => whnf
      exact ⟨rfl, rfl⟩
    · exact absurd rfl c
  · refine ia_V_in ia_k_X8_turns [some (.ref 52), some (.int (nI s)), some (.int v)] rfl rfl (Nat.le_of_ble_eq_true rfl) rfl ?_
    refine ia_walk (fun _ => false) 60 (fun X hX => ?_)
    conv => whnf
    refine Exists.intro (_, _) (And.intro (ia_callE (m_isSt1 en (by omega) hs)) ?_)
    conv => whnf
    refine And.intro (fun c => ?_) (fun c => ?_)
    · exact absurd (show (1 : Int32) = 0 from c) (by decide)
    · conv => whnf
      refine Exists.intro _ (And.intro (And.intro rfl (by omega)) ?_)
      conv => whnf
      refine And.intro (fun c1 => ?_) (fun c1 => ?_)
      · conv => whnf
        exact ⟨rfl, rfl⟩
      · exact absurd (show h.1 59 s = v by rw [(hr.2.2.2 s hs).2.2.2, hv]) c1
theorem m_wrap {a : Nat} {x v : Int32} {h : ia_H} {Z : Option Value → ia_H → Prop} (ha : (a = 123 ∧ v = 1) ∨ (a = 124 ∧ v = 0)) (hV : V_ 122 [.ref 52, .int x, .int v] h Z) (hZ : ∀ r h', Z r h' → ∃ y, r = some (.int y)) : V_ a [.ref 52, .int x] h Z := by
  obtain ⟨r, h', ev, z⟩ := hV
  obtain ⟨y, hy⟩ := hZ r h' z
  subst hy
  rcases ha with ⟨rfl, rfl⟩ | ⟨rfl, rfl⟩
  · refine ia_V_in ia_k_X8_retract [some (.ref 52), some (.int x)] rfl rfl (Nat.le_of_ble_eq_true rfl) rfl ?_
    refine ia_walk (fun _ => false) 60 (fun X hX => ?_)
    conv => whnf
    refine Exists.intro (_, _) (And.intro ev ?_)
    conv => whnf
    exact z
  · refine ia_V_in ia_k_X8_restore [some (.ref 52), some (.int x)] rfl rfl (Nat.le_of_ble_eq_true rfl) rfl ?_
    refine ia_walk (fun _ => false) 60 (fun X hX => ?_)
    conv => whnf
    refine Exists.intro (_, _) (And.intro ev ?_)
    conv => whnf
    exact z
/-- the class: retract and restore around turn -/
theorem v_wrap {a : Nat} {h : ia_H} {ts : Nat → tdT} {u : Nat} {b : Bool} (ha : (a = 67 ∧ b = false) ∨ (a = 68 ∧ b = true)) (hok : tdOk (ts u)) (hr : cRep h 4 (ts u)) {s : Nat} (hs : s < tdN (ts u)) (hb : tdO (ts u) s = b) {Z : Option Value → ia_H → Prop} (hV : V_ 92 [.ref 0, .int (nI s)] h Z) (hZ : ∀ r h', Z r h' → ∃ y, r = some (.int y)) : V_ a [.ref 0, .int (nI s)] h Z := by
  have hn := hok.2.2.1
  have en := hr.2.1
  have e10 : h.1 10 s = oI (tdO (ts u) s) := (hr.2.2.2.2 s hs).2.2.2
  obtain ⟨r, h', ev, z⟩ := hV
  obtain ⟨y, hy⟩ := hZ r h' z
  subst hy
  rcases ha with ⟨rfl, rfl⟩ | ⟨rfl, rfl⟩
  · rw [hb] at e10
    refine ia_V_in ia_k_X7_retract [some (.ref 0), some (.int (nI s))] rfl rfl (Nat.le_of_ble_eq_true rfl) rfl ?_
    refine ia_walk (fun _ => false) 60 (fun X hX => ?_)
    conv => whnf
    refine Exists.intro (_, _) (And.intro (ia_callE (v_isSt1 en (by omega) hs)) ?_)
    conv => whnf
    refine And.intro (fun c => ?_) (fun c => ?_)
    · exact absurd (show (1 : Int32) = 0 from c) (by decide)
    · conv => whnf
      refine Exists.intro _ (And.intro (And.intro rfl (by omega)) ?_)
      conv => whnf
      refine And.intro (fun c1 => ?_) (fun c1 => ?_)
      · conv => whnf
        refine Exists.intro (_, _) (And.intro ev ?_)
        conv => whnf
        exact z
      · exact absurd e10 c1
  · rw [hb] at e10
    refine ia_V_in ia_k_X7_restore [some (.ref 0), some (.int (nI s))] rfl rfl (Nat.le_of_ble_eq_true rfl) rfl ?_
    refine ia_walk (fun _ => false) 60 (fun X hX => ?_)
    conv => whnf
    refine Exists.intro (_, _) (And.intro (ia_callE (v_isSt1 en (by omega) hs)) ?_)
    conv => whnf
    refine And.intro (fun c => ?_) (fun c => ?_)
    · exact absurd (show (1 : Int32) = 0 from c) (by decide)
    · conv => whnf
      refine Exists.intro _ (And.intro (And.intro rfl (by omega)) ?_)
      conv => whnf
      refine And.intro (fun c1 => ?_) (fun c1 => ?_)
      · exact absurd (show h.1 10 s = 0 from c1) (by rw [e10]; decide)
      · conv => whnf
        refine Exists.intro (_, _) (And.intro ev ?_)
        conv => whnf
        exact z
theorem v_wrapN {a : Nat} {h : ia_H} {t : tdT} {b : Bool} (ha : (a = 67 ∧ b = false) ∨ (a = 68 ∧ b = true)) (hok : tdOk t) (hr : cRep h 4 t) {x : Int32} (hb : bad x (tdN t) ∨ ∃ s, s < tdN t ∧ x = nI s ∧ tdO t s = !b) : V_ a [.ref 0, .int x] h (Z_ (.int (-1)) h) := by
  have hn := hok.2.2.1
  have en := hr.2.1
  rcases hb with hb | ⟨s, hs, rfl, hb⟩
  · rcases ha with ⟨rfl, rfl⟩ | ⟨rfl, rfl⟩
    · refine ia_V_in ia_k_X7_retract [some (.ref 0), some (.int x)] rfl rfl (Nat.le_of_ble_eq_true rfl) rfl ?_
      refine ia_walk (fun _ => false) 60 (fun X hX => ?_)
      conv => whnf
      refine Exists.intro (_, _) (And.intro (ia_callE (v_isSt0 en hb)) ?_)
      conv => whnf
      refine And.intro (fun c => ?_) (fun c => ?_)
      · conv => whnf
        exact ⟨rfl, rfl⟩
      · exact absurd rfl c
    · refine ia_V_in ia_k_X7_restore [some (.ref 0), some (.int x)] rfl rfl (Nat.le_of_ble_eq_true rfl) rfl ?_
      refine ia_walk (fun _ => false) 60 (fun X hX => ?_)
      conv => whnf
      refine Exists.intro (_, _) (And.intro (ia_callE (v_isSt0 en hb)) ?_)
      conv => whnf
      refine And.intro (fun c => ?_) (fun c => ?_)
      · conv => whnf
        exact ⟨rfl, rfl⟩
      · exact absurd rfl c
  · have e10 : h.1 10 s = oI (tdO t s) := (hr.2.2.2.2 s hs).2.2.2
    rw [hb] at e10
    rcases ha with ⟨rfl, rfl⟩ | ⟨rfl, rfl⟩
    · refine ia_V_in ia_k_X7_retract [some (.ref 0), some (.int (nI s))] rfl rfl (Nat.le_of_ble_eq_true rfl) rfl ?_
      refine ia_walk (fun _ => false) 60 (fun X hX => ?_)
      conv => whnf
      refine Exists.intro (_, _) (And.intro (ia_callE (v_isSt1 en (by omega) hs)) ?_)
      conv => whnf
      refine And.intro (fun c => ?_) (fun c => ?_)
      · exact absurd (show (1 : Int32) = 0 from c) (by decide)
      · conv => whnf
        refine Exists.intro _ (And.intro (And.intro rfl (by omega)) ?_)
        conv => whnf
        refine And.intro (fun c1 => ?_) (fun c1 => ?_)
        · exact absurd (show h.1 10 s = 0 from c1) (by rw [e10]; decide)
        · conv => whnf
          exact ⟨rfl, rfl⟩
    · refine ia_V_in ia_k_X7_restore [some (.ref 0), some (.int (nI s))] rfl rfl (Nat.le_of_ble_eq_true rfl) rfl ?_
      refine ia_walk (fun _ => false) 60 (fun X hX => ?_)
      conv => whnf
      refine Exists.intro (_, _) (And.intro (ia_callE (v_isSt1 en (by omega) hs)) ?_)
      conv => whnf
      refine And.intro (fun c => ?_) (fun c => ?_)
      · exact absurd (show (1 : Int32) = 0 from c) (by decide)
      · conv => whnf
        refine Exists.intro _ (And.intro (And.intro rfl (by omega)) ?_)
        conv => whnf
        refine And.intro (fun c1 => ?_) (fun c1 => ?_)
        · conv => whnf
          exact ⟨rfl, rfl⟩
        · exact absurd e10 c1
/-- once both have done an act that is judged anew, the invariant stands -/
theorem Jx_act {h h1 h2 : ia_H} (hj : Jx h) {ts : Nat → tdT} {u p : Nat} (hok : tdOk (ts u)) (c1 : cRep h1 4 (ts u)) (c2 : aC h1 ts u p) (c3 : cJ h1 (ts u)) (cl : ltB h1 4) (c4 : ∀ y, (y < 4 ∨ (11 ≤ y ∧ y < 26) ∨ y = 29 ∨ (34 ≤ y ∧ y ≤ 42) ∨ 47 ≤ y) → h1.1 y = h.1 y) (c5 : ∀ y, y ≠ 9 → y ≠ 28 → h1.2 y = h.2 y) (m1 : mRep h2 (ts u)) (m2 : aM h2 ts u) (m3 : mJ h2 (ts u)) (m4 : frO h1 h2) : Jx h2 := by
  obtain ⟨⟨ts0, u0, p0, k1, k2, k3, k4, k5, k6, k7, k8, k9⟩, ⟨L, t1, t2, t3, t4⟩, p1, p2⟩ := hj
  obtain ⟨f1, f2, f3, f4, f5⟩ := m4
  have rc : cRep h2 4 (ts u) := cRep_fr c1 (fun y q1 q2 => f1 y (by omega)) (f2 _ (by decide))
  have hcj : cJ h2 (ts u) := cJ_fr c3 (f1 _ (by omega)) (f1 _ (by omega)) (f2 _ (by omega)) (fun y q1 q2 => f1 y (by omega))
  refine ⟨⟨ts, u, p, hok, rc, m1, dv_of hok rc m1 hcj m3, aC_fr c2 (fun y q1 q2 => f1 y (by omega)), m2, ltB_fr cl (f1 _ (by omega)), ?_, ?_⟩, ⟨L, t1, ?_, ?_, fun j hj => ?_⟩, fun i hi => ?_, fun i hi => ?_⟩
  · refine imOk_fr k8 (by decide) (by rw [f1 51 (by omega), c4 51 (by omega)]) (by rw [f1 65 (by omega), c4 65 (by omega)]) (fun y q1 q2 => by rw [f1 y (by omega), c4 y (by omega)]) (by rw [f2 _ (by decide), c5 _ (by decide) (by decide)]) (fun i hi => by rw [f4 _ (by omega), c4 63 (by omega)]) (fun i hi => by rw [f5 _ (by omega), c5 64 (by decide) (by decide)])
  · refine imOk_fr k9 (by decide) (by rw [f1 51 (by omega), c4 51 (by omega)]) (by rw [f1 65 (by omega), c4 65 (by omega)]) (fun y q1 q2 => by rw [f1 y (by omega), c4 y (by omega)]) (by rw [f2 _ (by decide), c5 _ (by decide) (by decide)]) (fun i hi => by rw [f4 _ (by omega), c4 63 (by omega)]) (fun i hi => by rw [f5 _ (by omega), c5 64 (by decide) (by decide)])
  · rw [f1 2 (by omega), c4 2 (by omega)]; exact t2
  · rw [f3 1 (by decide) (by decide) (by decide), c4 52 (by omega)]; exact t3
  · rw [f1 3 (by omega), f1 53 (by omega), c4 3 (by omega), c4 53 (by omega)]; exact t4 j hj
  · rw [f1 48 (by omega), f1 75 (by omega), c4 48 (by omega), c4 75 (by omega)]; exact p1 i hi
  · rw [f1 49 (by omega), f1 74 (by omega), c4 49 (by omega), c4 74 (by omega)]; exact p2 i hi
theorem ltB_C {h H : ia_H} (hl : ltB h 4) (hf : frC h H) : ltB H 4 := fun j hj => Classical.byContradiction (fun q => hf.2.2 j q (hl j hj))
theorem mRep_C {h H : ia_H} {t : tdT} (hr : mRep h t) (hf : frC h H) : mRep H t := by
  have f := fun y q => hf.1 y q
  exact mRep_fr hr (by rw [f 52 (by omega)]) (by rw [f 52 (by omega)]) (f 54 (by omega)) (f 56 (by omega)) (f 57 (by omega)) (f 59 (by omega)) (hf.2.1 58 (by decide) (by decide))
theorem aM_C {h H : ia_H} {ts : Nat → tdT} {u : Nat} (ha : aM h ts u) (hf : frC h H) : aM H ts u := by
  have f := fun y q => hf.1 y q
  exact aM_fr ha (by rw [f 52 (by omega)]) (fun i _ => by rw [f 63 (by omega)]) (fun i _ => by rw [hf.2.1 64 (by decide) (by decide)])
theorem j_rr {h : ia_H} (hj : Jx h) (x : Int32) {a b : Nat} {v : Int32} {o : Bool} (ha : (a = 67 ∧ o = false) ∨ (a = 68 ∧ o = true)) (hb : (b = 123 ∧ v = 1) ∨ (b = 124 ∧ v = 0)) (hv : v = oI (!o)) : JQ a [.ref 0, .int x] b [.ref 52, .int x] h := by
  obtain ⟨⟨ts, u, p, k1, k2, k3, k4, k5, k6, k7, k8, k9⟩, ht, hpn⟩ := hj
  have hj : Jx h := ⟨⟨ts, u, p, k1, k2, k3, k4, k5, k6, k7, k8, k9⟩, ht, hpn⟩
  have hn := k1.2.2.1
  have no : (bad x (tdN (ts u)) ∨ ∃ s, s < tdN (ts u) ∧ x = nI s ∧ tdO (ts u) s = !o) → JQ a [.ref 0, .int x] b [.ref 52, .int x] h := by
    intro hq
    refine JQ_P hj (P_of (v_wrapN ha k1 k2 hq) (m_wrap hb (m_turnN k1 k3 ?_) (fun r h' z => ⟨_, z.1⟩)))
    rcases hq with hq | ⟨s, q1, q2, q3⟩
    · exact Or.inl hq
    · exact Or.inr ⟨s, q1, q2, by rw [hv, q3]⟩
  rcases bad_or x (show tdN (ts u) < 2 ^ 31 by omega) with hbad | ⟨s, hs, rfl⟩
  · exact no (Or.inl hbad)
  · by_cases ho : tdO (ts u) s = o
    · have hV := v_wrap ha k1 k2 hs ho (v_turn k1 k2 k5 hs) (fun r h' z => ⟨_, z.1⟩)
      obtain ⟨r, h1, ev, z1, z2, z3, z4, z5⟩ := hV
      refine ⟨r, h1, ev, ?_⟩
      have hM := m_wrap hb (m_turn k1 (mRep_C k3 z5) (aM_C k6 z5) hs (v := v) (by rw [hv, ho])) (fun r h' z => ⟨_, z.1⟩)
      obtain ⟨r2, h2, ev2, y1, y2, y3, y4, y5⟩ := hM
      have ht2 := tsP_top ts k5.1 (tdTn (ts u) s)
      have hJ2 : Jx h2 := Jx_act hj (ts := tsP ts u (tdTn (ts u) s)) (u := uP u) (p := pP p) (by rw [ht2]; exact tdTn_ok k1 s) (by rw [ht2]; exact z2) z3 (by rw [ht2]; exact z4) (ltB_C k7 z5) z5.1 z5.2.1 (by rw [ht2]; exact y2) y3 (by rw [ht2]; exact y4) y5
      refine ⟨r2, h2, ev2, ?_, hJ2⟩
      rw [y1, z1]
      obtain ⟨ts2, u2, p2, -, -, -, -, -⟩ := hJ2.1
      have rc : cRep h2 4 (tdTn (ts u) s) := cRep_fr z2 (fun y q1 q2 => y5.1 y (by omega)) (y5.2.1 _ (by decide))
      have hcj : cJ h2 (tdTn (ts u) s) := cJ_fr z4 (y5.1 _ (by omega)) (y5.1 _ (by omega)) (y5.2.1 _ (by omega)) (fun y q1 q2 => y5.1 y (by omega))
      obtain ⟨sd, A, B, hw, -, -⟩ := dv_of (tdTn_ok k1 s) rc y2 hcj y4
      have e26 : ∀ j, j < tdN (ts u) → h1.1 26 j = h2.1 62 j := fun j hj2 => by
        rw [← y5.1 26 (by omega)]
        exact (hw.2.2.2.1 j hj2).2.2
      rw [ct_congr (p := fun j => decide (h2.1 62 j = 0)) (q := fun j => decide (h1.1 26 j = 0)) (fun j hj2 => by rw [e26 j hj2]), ct_congr (p := fun j => decide (h2.1 62 j = 1)) (q := fun j => decide (h1.1 26 j = 1)) (fun j hj2 => by rw [e26 j hj2])]
    · refine no (Or.inr ⟨s, hs, rfl, ?_⟩)
      cases hq : tdO (ts u) s <;> cases o <;> first | rfl | exact absurd hq ho
theorem j_retract {h : ia_H} (hj : Jx h) (x : Int32) : JQ 67 [.ref 0, .int x] 123 [.ref 52, .int x] h := j_rr hj x (o := false) (Or.inl ⟨rfl, rfl⟩) (Or.inl ⟨rfl, rfl⟩) rfl
theorem j_restore {h : ia_H} (hj : Jx h) (x : Int32) : JQ 68 [.ref 0, .int x] 124 [.ref 52, .int x] h := j_rr hj x (o := true) (Or.inr ⟨rfl, rfl⟩) (Or.inr ⟨rfl, rfl⟩) rfl
theorem j_undo {h : ia_H} (hj : Jx h) : JQ 69 [.ref 0] 129 [.ref 52] h := by
  obtain ⟨⟨ts, u, p, k1, k2, k3, k4, k5, k6, k7, k8, k9⟩, ht, hpn⟩ := hj
  have hj : Jx h := ⟨⟨ts, u, p, k1, k2, k3, k4, k5, k6, k7, k8, k9⟩, ht, hpn⟩
  cases u with
  | zero =>
    have e22 := k6.2.1
    refine JQ_P hj (P_of (v_undo0 k5) ?_)
    refine ia_V_in ia_k_X8_undo [some (.ref 52)] rfl rfl (Nat.le_of_ble_eq_true rfl) rfl ?_
    refine ia_walk (fun _ => false) 60 (fun X hX => ?_)
    conv => whnf
    refine And.intro (fun c => ?_) (fun c => ?_)
    · conv => whnf
      exact ⟨rfl, rfl⟩
    · exact absurd (show h.1 52 22 = 0 by rw [e22]; rfl) c
  | succ u =>
    obtain ⟨ok0, -⟩ := k6.2.2 u (by omega)
    obtain ⟨r, h1, ev, z1, z2, z3, z4, z5⟩ := v_undo1 ok0 k1 k2 k5
    refine ⟨r, h1, ev, ?_⟩
    have hu : u + 1 ≤ 20 := k6.1
    obtain ⟨a1, a2, a3⟩ := aM_C k6 z5
    have e22 : h1.1 52 22 - 1 = nI u := by rw [a2]; exact nI_s1 (by omega)
    have hh : hRep (hsI h1 52 (upd (h1.1 52) 22 (h1.1 52 22 - 1))) u (ts u) := (a3 u (by omega)).2
    obtain ⟨r2, h2, ev2, y1, y2, y3, y4⟩ := m_goes ok0 u (by omega) hh
    subst y1
    have ev2b := ev2
    rw [← e22] at ev2b
    have f22 : h2.1 52 22 = nI u := by
      rw [y4.2.2 22 (by decide) (by decide)]
      exact e22
    have hJ2 : Jx h2 := by
      refine Jx_act hj (ts := ts) (u := u) (p := pM p) ok0 z2 z3 z4 (ltB_C k7 z5) z5.1 z5.2.1 y2 ⟨by omega, f22, fun k hk => ?_⟩ y3 ⟨fun y hy => ?_, fun y hy => ?_, fun j j1 j2 j3 => ?_, fun i hi => ?_, fun i hi => ?_⟩
      · obtain ⟨q1, q2⟩ := a3 k (by omega)
        exact ⟨q1, hRep_fr q1 q2 (fun m _ => by rw [y4.1 63 (by decide) (by decide) (by decide) (by decide) (by decide) (by decide) (by decide)]; rfl) (fun m _ => by rw [y4.2.1 64 (by decide) (by decide)]; rfl)⟩
      · rw [y4.1 y (by omega) (by omega) (by omega) (by omega) (by omega) (by omega) (by omega)]
        show (if y = 52 then _ else h1.1 y) = _
        rw [if_neg (by omega)]
      · rw [y4.2.1 y (by omega) (by omega)]; rfl
      · rw [y4.2.2 j j1 j2]
        show upd (h1.1 52) 22 _ j = _
        rw [updn j3]
      · rw [y4.1 63 (by decide) (by decide) (by decide) (by decide) (by decide) (by decide) (by decide)]; rfl
      · rw [y4.2.1 64 (by decide) (by decide)]; rfl
    refine ia_V_in ia_k_X8_undo [some (.ref 52)] rfl rfl (Nat.le_of_ble_eq_true rfl) rfl ?_
    refine ia_walk (fun _ => false) 60 (fun X hX => ?_)
    conv => whnf
    refine And.intro (fun c => ?_) (fun c => ?_)
    · exact absurd (show h1.1 52 22 = 0 from c) (by rw [a2]; exact nI_ne0 (by omega) (by omega))
    · conv => whnf
      refine Exists.intro (_, _) (And.intro ev2b ?_)
      conv => whnf
      refine ⟨?_, hJ2⟩
      rw [z1]
      exact congrArg (fun v => some (Value.int v)) f22
