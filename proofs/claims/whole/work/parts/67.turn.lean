/-! turn, undo: the class -/
def tdTn (t : tdT) (s : Nat) : tdT := (tdG t, tdN t, tdL t, tdC t, tdA t, tdB t, tdM t, fun j => if j = s then !tdO t j else tdO t j)
theorem tdTn_ok {t : tdT} (h : tdOk t) (s : Nat) : tdOk (tdTn t s) := h
theorem tdTn_ac {t : tdT} {s : Nat} (hs : s < tdN t) : acR (nI s) t (tdTn t s) := by
  refine ⟨⟨fun g _ _ => ⟨rfl, fun _ => rfl⟩, fun j _ => ⟨rfl, rfl, rfl⟩⟩, Or.inr ⟨s, hs, rfl, rfl, rfl, fun j hj => ?_⟩⟩
  show tdO t j = if j = s then !(if j = s then !tdO t j else tdO t j) else (if j = s then !tdO t j else tdO t j)
  by_cases q : j = s
  · rw [if_pos q, if_pos q, Bool.not_not]
  · rw [if_neg q, if_neg q]
def frC (h H : ia_H) : Prop := (∀ y, (y < 4 ∨ (11 ≤ y ∧ y < 26) ∨ y = 29 ∨ (34 ≤ y ∧ y ≤ 42) ∨ 47 ≤ y) → H.1 y = h.1 y) ∧ (∀ y, y ≠ 9 → y ≠ 28 → H.2 y = h.2 y) ∧ ∀ j, ¬ byR (H.1 5 j) → ¬ byR (h.1 5 j)
theorem oI_not {b : Bool} : (if oI b = 0 then (1 : Int32) else 0) = oI (!b) := by cases b <;> rfl
theorem cRep_turn {h K : ia_H} {t : tdT} (hr : cRep h 4 t) {s : Nat} (e4 : K.1 4 = h.1 4) (e5 : K.1 5 = h.1 5) (e6 : K.1 6 = h.1 6) (e7 : K.1 7 = h.1 7) (e8 : K.1 8 = h.1 8) (e9 : K.2 9 = h.2 9) (e10 : K.1 10 = upd (h.1 10) s (if h.1 10 s = 0 then 1 else 0)) : cRep K 4 (tdTn t s) := by
  obtain ⟨r1, r2, r3, r4, r5⟩ := hr
  refine ⟨by rw [e4]; exact r1, by rw [e4]; exact r2, by show K.1 6 0 = 0; rw [e6]; exact r3, fun g g1 g2 => ?_, fun j hj => ?_⟩
  · show K.1 6 g = _ ∧ ∀ k, _ → K.1 5 (6 * g + k) = _
    rw [e5, e6]
    exact r4 g g1 g2
  · obtain ⟨q1, q2, q3, q4⟩ := r5 j hj
    show K.1 7 j = _ ∧ K.1 8 j = _ ∧ K.2 9 j = _ ∧ K.1 10 j = oI (if j = s then !tdO t j else tdO t j)
    rw [e7, e8, e9, e10]
    refine ⟨q1, q2, q3, ?_⟩
    have q4 : h.1 10 j = oI (tdO t j) := q4
    by_cases hj2 : j = s
    · subst hj2
      rw [updp, if_pos rfl, q4, oI_not]
    · rw [updn hj2, if_neg hj2, q4]
theorem v_turn {h : ia_H} {ts : Nat → tdT} {u p : Nat} (hok : tdOk (ts u)) (hr : cRep h 4 (ts u)) (ha : aC h ts u p) {s : Nat} (hs : s < tdN (ts u)) : V_ 92 [.ref 0, .int (nI s)] h (fun r h' => r = some (.int (nI (ct (fun j => decide (h'.1 26 j = 0)) (tdN (ts u))) + nI (ct (fun j => decide (h'.1 26 j = 1)) (tdN (ts u))))) ∧ cRep h' 4 (tdTn (ts u) s) ∧ aC h' (tsP ts u (tdTn (ts u) s)) (uP u) (pP p) ∧ cJ h' (tdTn (ts u) s) ∧ frC h h') := by
  have hn := hok.2.2.1
  have a0 := ha
  obtain ⟨a1, a2, a3, a4, -⟩ := ha
  have key : ∀ v : Int32, v = (if h.1 10 s = 0 then (1 : Int32) else 0) → R_ ia_k_X7_turn (fun r h' => r = some (.int (nI (ct (fun j => decide (h'.1 26 j = 0)) (tdN (ts u))) + nI (ct (fun j => decide (h'.1 26 j = 1)) (tdN (ts u))))) ∧ cRep h' 4 (tdTn (ts u) s) ∧ aC h' (tsP ts u (tdTn (ts u) s)) (uP u) (pP p) ∧ cJ h' (tdTn (ts u) s) ∧ frC h h') (38, [some (.ref 0), some (.int (nI s))], [], hsI (hAd h p (pP p) (uP u) (nI s)) 10 (upd (h.1 10) s v)) := by
    intro v hv
    have rk : cRep (hsI (hAd h p (pP p) (uP u) (nI s)) 10 (upd (h.1 10) s v)) 4 (tdTn (ts u) s) := cRep_turn hr rfl rfl rfl rfl rfl rfl (by rw [hv]; rfl)
    obtain ⟨r1, h1, ev1, z1, z2, z3⟩ := v_anew (tdTn_ok hok s) rk
    subst z1
    have c4 : h1.1 4 = h.1 4 := z2.1 4 (by decide) (by decide) (by decide)
    have en : h1.1 4 7 = nI (tdN (ts u)) := by rw [c4]; exact hr.2.1
    refine ia_walk (fun _ => false) 60 (fun X hX => ?_)
    conv => whnf
    refine Exists.intro (_, _) (And.intro ev1 ?_)
    conv => whnf
    have ev2 := ia_callE (v_countOf h1 0 (tdN (ts u)) hn)
    rw [← en] at ev2
    refine Exists.intro (_, _) (And.intro ev2 ?_)
    conv => whnf
    have ev3 := ia_callE (v_countOf h1 1 (tdN (ts u)) hn)
    rw [← en] at ev3
    refine Exists.intro (_, _) (And.intro ev3 ?_)
    conv => whnf
    have rk1 : cRep h1 4 (tdTn (ts u) s) := by
      obtain ⟨q1, q2, q3, q4, q5⟩ := rk
      have e := fun y h1 h2 h3 => (z2.1 y h1 h2 h3)
      have f5 := e 5 (by decide) (by decide) (by decide)
      have f6 := e 6 (by decide) (by decide) (by decide)
      have f7 := e 7 (by decide) (by decide) (by decide)
      have f8 := e 8 (by decide) (by decide) (by decide)
      have f10 := e 10 (by decide) (by decide) (by decide)
      have f4 := e 4 (by decide) (by decide) (by decide)
      have f9 := z2.2 9 (by decide)
      refine ⟨by rw [f4]; exact q1, by rw [f4]; exact q2, ?_, fun g g1 g2 => ?_, fun j hj => ?_⟩
      · show h1.1 6 0 = 0; rw [f6]; exact q3
      · show h1.1 6 g = _ ∧ ∀ k, _ → h1.1 5 (6 * g + k) = _
        rw [f5, f6]; exact q4 g g1 g2
      · show h1.1 7 j = _ ∧ h1.1 8 j = _ ∧ h1.2 9 j = _ ∧ h1.1 10 j = _
        rw [f7, f8, f9, f10]; exact q5 j hj
    refine ⟨rfl, rk1, ?_, z3, ?_⟩
    · refine aC_add a0 (tdTn_ac hs) hr.1 hr.2.1 ?_ ?_ ?_ ?_
      · exact z2.1 43 (by decide) (by decide) (by decide)
      · exact z2.1 44 (by decide) (by decide) (by decide)
      · exact z2.1 45 (by decide) (by decide) (by decide)
      · exact z2.1 46 (by decide) (by decide) (by decide)
    · refine ⟨fun y hy => ?_, fun y h1 h2 => ?_, fun j hj => ?_⟩
      · rw [z2.1 y (by omega) (by omega) (by omega)]
        show (if y = 10 then _ else if y = 43 then _ else if y = 46 then _ else if y = 45 then _ else if y = 44 then _ else h.1 y) = h.1 y
        rw [if_neg (by omega), if_neg (by omega), if_neg (by omega), if_neg (by omega), if_neg (by omega)]
      · rw [z2.2 y h2]
        rfl
      · rw [z2.1 5 (by decide) (by decide) (by decide)] at hj
        exact hj
  refine ia_V_in ia_k_X7_turn [some (.ref 0), some (.int (nI s))] rfl rfl (Nat.le_of_ble_eq_true rfl) rfl ?_
  refine ia_walk (fun pc => Nat.beq pc 38) 60 (fun X hX => ?_)
  conv => whnf
  refine Exists.intro (_, _) (And.intro (ia_callE (v_add h u p a1 a2 a3 a4 (nI s))) ?_)
  conv => whnf
  refine Exists.intro _ (And.intro (And.intro rfl (by omega)) ?_)
  conv => whnf
  refine And.intro (fun c => ?_) (fun c => ?_)
  · have c : h.1 10 s = 0 := c
    conv => whnf
    refine Exists.intro _ (And.intro (And.intro rfl (by omega)) ?_)
    conv => whnf
    exact hX _ (key (vp_nar .boolean 1) (by rw [if_pos c]; rfl))
  · have c : ¬ h.1 10 s = 0 := c
    conv => whnf
    refine Exists.intro _ (And.intro (And.intro rfl (by omega)) ?_)
    conv => whnf
    exact hX _ (key (vp_nar .boolean 0) (by rw [if_neg c]; rfl))
/-- how things are told again once an act is taken back -/
theorem cRep_back {h : ia_H} {a b : tdT} {x : Int32} {p2 u2 : Nat} {f10 : Nat → Int32} (hr : cRep h 4 b) (hx : acR x a b) (eg : h.1 45 p2 = nI (tdG a)) (en : h.1 46 p2 = nI (tdN a)) (hf : (x = -1 ∧ f10 = h.1 10) ∨ ∃ s, s < 120 ∧ x = nI s ∧ f10 = upd (h.1 10) s (if h.1 10 s = 0 then 1 else 0)) (hn : tdN a ≤ 120) : cRep (hTb h p2 u2 f10) 4 a := by
  obtain ⟨r1, r2, r3, r4, r5⟩ := hr
  obtain ⟨⟨e1, e2⟩, hx⟩ := hx
  have hG : tdG a ≤ tdG b ∧ tdN a ≤ tdN b := by
    rcases hx with ⟨-, q1, q2, -⟩ | ⟨-, -, -, q1, q2, -⟩
    · exact ⟨q1, q2⟩
    · exact ⟨by omega, by omega⟩
  refine ⟨?_, ?_, r3, fun g g1 g2 => ?_, fun j hj => ?_⟩
  · show h.1 45 p2 = _; exact eg
  · show h.1 46 p2 = _; exact en
  · obtain ⟨q1, q2⟩ := r4 g g1 (by omega)
    obtain ⟨w1, w2⟩ := e1 g g1 g2
    show h.1 6 g = _ ∧ ∀ k, _ → h.1 5 (6 * g + k) = _
    rw [w1]
    exact ⟨q1, fun k hk => by rw [w2 k]; exact q2 k hk⟩
  · obtain ⟨q1, q2, q3, q4⟩ := r5 j (by omega)
    obtain ⟨w1, w2, w3⟩ := e2 j hj
    show h.1 7 j = _ ∧ h.1 8 j = _ ∧ h.2 9 j = _ ∧ f10 j = _
    rw [w1, w2, w3]
    refine ⟨q1, q2, q3, ?_⟩
    have q4 : h.1 10 j = oI (tdO b j) := q4
    rcases hx with ⟨x1, -, -, x4⟩ | ⟨s0, x1, x2, -, -, x5⟩
    · rcases hf with ⟨-, f2⟩ | ⟨s, f1, f2, -⟩
      · rw [f2, q4, x4 j hj]
      · rw [x1] at f2
        exact absurd f2.symm (nI_nm1 (by omega))
    · rcases hf with ⟨f1, -⟩ | ⟨s, f1, f2, f3⟩
      · rw [x2] at f1
        exact absurd f1 (nI_nm1 (by omega))
      · have es : s = s0 := nI_inj (by omega) (by omega) (f2.symm.trans x2)
        subst es
        rw [f3, x5 j hj]
        by_cases hj2 : j = s
        · subst hj2
          rw [updp, if_pos rfl, q4, oI_not]
        · rw [updn hj2, if_neg hj2, q4]
theorem pM_mod {p : Nat} (hp : p < 20) : pM p = (p + 19) % 20 := by
  unfold pM
  by_cases q : 0 < p
  · rw [if_pos q]; omega
  · rw [if_neg q]; omega
theorem v_undo0 {h : ia_H} {ts : Nat → tdT} {p : Nat} (ha : aC h ts 0 p) : V_ 69 [.ref 0] h (Z_ (.int (-1)) h) := by
  have e4 := ha.2.2.2.1
  refine ia_V_in ia_k_X7_undo [some (.ref 0)] rfl rfl (Nat.le_of_ble_eq_true rfl) rfl ?_
  refine ia_walk (fun _ => false) 60 (fun X hX => ?_)
  conv => whnf
  refine And.intro (fun c => ?_) (fun c => ?_)
  · conv => whnf
    exact ⟨rfl, rfl⟩
  · exact absurd (show h.1 43 4 = 0 by rw [e4]; rfl) c
theorem v_undo1 {h : ia_H} {ts : Nat → tdT} {u p : Nat} (hok : tdOk (ts u)) (hok2 : tdOk (ts (u + 1))) (hr : cRep h 4 (ts (u + 1))) (ha : aC h ts (u + 1) p) : V_ 69 [.ref 0] h (fun r h' => r = some (.int (nI u)) ∧ cRep h' 4 (ts u) ∧ aC h' ts u (pM p) ∧ cJ h' (ts u) ∧ frC h h') := by
  obtain ⟨a1, a2, a3, a4, a5⟩ := ha
  have hpm := pM_mod a2
  have hsl : ((p + 20 - (u + 1) + u) % 20) = pM p := by rw [hpm]; omega
  obtain ⟨g1, g2, g3⟩ := a5 u (by omega)
  rw [hsl] at g1 g2 g3
  have hn := hok.2.2.1
  have hx : h.1 44 (pM p) = -1 ∨ ∃ s, s < 120 ∧ h.1 44 (pM p) = nI s ∧ (h.1 10 s = 0 ∨ h.1 10 s = 1) := by
    rcases g3.2 with ⟨q, -⟩ | ⟨s0, q1, q2, q3, q4, -⟩
    · exact Or.inl q
    · refine Or.inr ⟨s0, by omega, q2, ?_⟩
      have := (hr.2.2.2.2 s0 (by omega)).2.2.2
      have : h.1 10 s0 = oI (tdO (ts (u + 1)) s0) := this
      rw [this]
      cases tdO (ts (u + 1)) s0
      · exact Or.inl rfl
      · exact Or.inr rfl
  obtain ⟨r1, h1, ev1, z1, z2⟩ := v_takeBack h u p a1 a2 a3 a4 hx
  have hT : ∃ f10, h1 = hTb h (pM p) u f10 ∧ cRep h1 4 (ts u) := by
    rcases z2 with ⟨y1, y2⟩ | ⟨s, y1, y2, y3⟩
    · exact ⟨_, y2, by rw [y2]; exact cRep_back hr g3 g1 g2 (Or.inl ⟨y1, rfl⟩) hn⟩
    · exact ⟨_, y3, by rw [y3]; exact cRep_back hr g3 g1 g2 (Or.inr ⟨s, y1, y2, rfl⟩) hn⟩
  obtain ⟨f10, e1, rk⟩ := hT
  obtain ⟨r2, h2, ev2, w1, w2, w3⟩ := v_anew hok rk
  have e43 : h2.1 43 = upd (upd (h.1 43) 3 (nI (pM p))) 4 (nI u) := by rw [w2.1 43 (by decide) (by decide) (by decide), e1]; rfl
  have e44 : h2.1 44 = h.1 44 := by rw [w2.1 44 (by decide) (by decide) (by decide), e1]; rfl
  have e45 : h2.1 45 = h.1 45 := by rw [w2.1 45 (by decide) (by decide) (by decide), e1]; rfl
  have e46 : h2.1 46 = h.1 46 := by rw [w2.1 46 (by decide) (by decide) (by decide), e1]; rfl
  have rk2 : cRep h2 4 (ts u) := by
    obtain ⟨q1, q2, q3, q4, q5⟩ := rk
    have e := fun y h1 h2 h3 => (w2.1 y h1 h2 h3)
    have f5 := e 5 (by decide) (by decide) (by decide)
    have f6 := e 6 (by decide) (by decide) (by decide)
    have f7 := e 7 (by decide) (by decide) (by decide)
    have f8 := e 8 (by decide) (by decide) (by decide)
    have f10 := e 10 (by decide) (by decide) (by decide)
    have f4 := e 4 (by decide) (by decide) (by decide)
    have f9 := w2.2 9 (by decide)
    refine ⟨by rw [f4]; exact q1, by rw [f4]; exact q2, ?_, fun g g1 g2 => ?_, fun j hj => ?_⟩
    · show h2.1 6 0 = 0; rw [f6]; exact q3
    · show h2.1 6 g = _ ∧ ∀ k, _ → h2.1 5 (6 * g + k) = _
      rw [f5, f6]; exact q4 g g1 g2
    · show h2.1 7 j = _ ∧ h2.1 8 j = _ ∧ h2.2 9 j = _ ∧ h2.1 10 j = _
      rw [f7, f8, f9, f10]; exact q5 j hj
  have hres : cRep h2 4 (ts u) ∧ aC h2 ts u (pM p) ∧ cJ h2 (ts u) ∧ frC h h2 := by
    refine ⟨rk2, ⟨by omega, by rw [hpm]; omega, by rw [e43]; rfl, by rw [e43]; rfl, fun k hk => ?_⟩, w3, fun y hy => ?_, fun y q1 q2 => ?_, fun j hj => ?_⟩
    · rw [e44, e45, e46, show ((pM p + 20 - u + k) % 20) = ((p + 20 - (u + 1) + k) % 20) by rw [hpm]; omega]
      exact a5 k (by omega)
    · rw [w2.1 y (by omega) (by omega) (by omega), e1]
      show (if y = 10 then _ else if y = 4 then _ else if y = 43 then _ else h.1 y) = h.1 y
      rw [if_neg (by omega), if_neg (by omega), if_neg (by omega)]
    · rw [w2.2 y q2, e1]
      rfl
    · rw [w2.1 5 (by decide) (by decide) (by decide), e1] at hj
      exact hj
  have e22 : h2.1 43 4 = nI u := by rw [e43]; rfl
  subst z1 w1
  refine ia_V_in ia_k_X7_undo [some (.ref 0)] rfl rfl (Nat.le_of_ble_eq_true rfl) rfl ?_
  refine ia_walk (fun _ => false) 60 (fun X hX => ?_)
  conv => whnf
  refine And.intro (fun c => ?_) (fun c => ?_)
  · exact absurd (show h.1 43 4 = 0 from c) (by rw [a4]; exact nI_ne0 (by omega) (by omega))
  · conv => whnf
    refine Exists.intro (_, _) (And.intro ev1 ?_)
    conv => whnf
    refine Exists.intro (_, _) (And.intro ev2 ?_)
    conv => whnf
    exact ⟨congrArg (fun v => some (Value.int v)) e22, hres⟩
