/-! what stays when other cells change; the invariant -/
theorem cRep_fr {h H : ia_H} {c : Nat} {t : tdT} (hr : cRep h c t) (e1 : ∀ y, c ≤ y → y ≤ c + 6 → H.1 y = h.1 y) (e2 : H.2 (c + 5) = h.2 (c + 5)) : cRep H c t := by
  unfold cRep cDat
  rw [e1 c (by omega) (by omega), e1 (c + 1) (by omega) (by omega), e1 (c + 2) (by omega) (by omega), e1 (c + 3) (by omega) (by omega), e1 (c + 4) (by omega) (by omega), e1 (c + 6) (by omega) (by omega), e2]
  exact hr
theorem mRep_fr {h H : ia_H} {t : tdT} (hr : mRep h t) (e4 : H.1 52 4 = h.1 52 4) (e10 : H.1 52 10 = h.1 52 10) (e54 : H.1 54 = h.1 54) (e56 : H.1 56 = h.1 56) (e57 : H.1 57 = h.1 57) (e59 : H.1 59 = h.1 59) (e58 : H.2 58 = h.2 58) : mRep H t := by
  unfold mRep mDat
  rw [e4, e10, e54, e56, e57, e59, e58]
  exact hr
theorem aC_fr {h H : ia_H} {ts : Nat → tdT} {u p : Nat} (ha : aC h ts u p) (e : ∀ y, 43 ≤ y → y ≤ 46 → H.1 y = h.1 y) : aC H ts u p := by
  unfold aC
  rw [e 43 (by decide) (by decide), e 44 (by decide) (by decide), e 45 (by decide) (by decide), e 46 (by decide) (by decide)]
  exact ha
theorem cJ_fr {h H : ia_H} {t : tdT} (hc : cJ h t) (e26 : H.1 26 = h.1 26) (e27 : H.1 27 = h.1 27) (e28 : H.2 28 = h.2 28) (e : ∀ y, 30 ≤ y → y ≤ 33 → H.1 y = h.1 y) : cJ H t := by
  unfold cJ wbOk
  rw [e26, e27, e28, e 30 (by decide) (by decide), e 31 (by decide) (by decide), e 32 (by decide) (by decide)]
  exact hc
theorem aM_fr {h H : ia_H} {ts : Nat → tdT} {u : Nat} (ha : aM h ts u) (e22 : H.1 52 22 = h.1 52 22) (e63 : ∀ i, i < 12980 → H.1 63 i = h.1 63 i) (e64 : ∀ i, i < 2400 → H.2 64 i = h.2 64 i) : aM H ts u := by
  obtain ⟨a1, a2, a3⟩ := ha
  refine ⟨a1, e22.trans a2, fun k hk => ?_⟩
  obtain ⟨q1, q2⟩ := a3 k hk
  exact ⟨q1, hRep_fr q1 q2 (fun m hm => e63 _ (by omega)) (fun m hm => e64 _ (by omega))⟩
/-- an image is in both, or in none -/
def imOk (h : ia_H) (k : Nat) : Prop := (h.1 51 k = 0 ∧ h.1 65 k = 0) ∨ (h.1 51 k = 1 ∧ h.1 65 k = 1 ∧ ∃ t, tdOk t ∧ cRep h (11 + 7 * k) t ∧ ltB h (11 + 7 * k) ∧ hRep h (20 + k) t)
theorem ltB_fr {h H : ia_H} {c : Nat} (hl : ltB h c) (e : H.1 (c + 1) = h.1 (c + 1)) : ltB H c := by
  unfold ltB
  rw [e]
  exact hl
theorem imOk_fr {h H : ia_H} {k : Nat} (hi : imOk h k) (hk : k < 2) (e51 : H.1 51 k = h.1 51 k) (e65 : H.1 65 k = h.1 65 k) (e : ∀ y, 11 + 7 * k ≤ y → y ≤ 17 + 7 * k → H.1 y = h.1 y) (e2 : H.2 (16 + 7 * k) = h.2 (16 + 7 * k)) (e63 : ∀ i, i < 649 → H.1 63 (649 * (20 + k) + i) = h.1 63 (649 * (20 + k) + i)) (e64 : ∀ i, i < 120 → H.2 64 (120 * (20 + k) + i) = h.2 64 (120 * (20 + k) + i)) : imOk H k := by
  unfold imOk
  rw [e51, e65]
  rcases hi with hi | ⟨h1, h2, t, h3, h4, h5, h6⟩
  · exact Or.inl hi
  · refine Or.inr ⟨h1, h2, t, h3, cRep_fr h4 (fun y q1 q2 => e y q1 (by omega)) ?_, ltB_fr h5 (e _ (by omega) (by omega)), hRep_fr h3 h6 e63 e64⟩
    rw [show 11 + 7 * k + 5 = 16 + 7 * k by omega]
    exact e2
theorem dvOk_fr {h H : ia_H} {t : tdT} (hd : dvOk h t) (e52 : H.1 52 4 = h.1 52 4 ∧ H.1 52 10 = h.1 52 10) (e4 : H.1 4 6 = h.1 4 6 ∧ H.1 4 7 = h.1 4 7) (es : ∀ s, s < tdN t → H.1 56 s = h.1 56 s ∧ H.1 57 s = h.1 57 s ∧ H.1 62 s = h.1 62 s ∧ H.1 7 s = h.1 7 s ∧ H.1 8 s = h.1 8 s) (eg : ∀ g, g < tdG t → H.1 60 g = h.1 60 g ∧ H.2 61 g = h.2 61 g) (e26 : H.1 26 = h.1 26) (e27 : H.1 27 = h.1 27) (e28 : H.2 28 = h.2 28) (e : ∀ y, 30 ≤ y → y ≤ 33 → H.1 y = h.1 y) : dvOk H t := by
  obtain ⟨sd, A, B, ⟨⟨a1, a2, a3, a4, a5, a6⟩, b, c, d, ⟨w1, w2, w3⟩, f, g⟩, hp, hc⟩ := hd
  have e30 := e 30 (by decide) (by decide)
  have e31 := e 31 (by decide) (by decide)
  have e32 := e 32 (by decide) (by decide)
  refine ⟨sd, A, B, ⟨⟨a1, a2, e52.2.trans a3, e52.1.trans a4, fun s hs => ?_, a6⟩, e4.2.trans b, e4.1.trans c, fun s hs => ?_, ⟨fun w h1 h2 => ?_, fun j hj => ?_, ?_⟩, fun s h1 h2 => ?_, g⟩, ?_, fun x o hx ho => ?_⟩
  · obtain ⟨z1, z2, z3, -⟩ := es s hs
    rw [z1, z2, z3]; exact a5 s hs
  · obtain ⟨-, -, z3, z4, z5⟩ := es s hs
    rw [z3, z4, z5, e26]; exact d s hs
  · rw [e30]; exact w1 w h1 h2
  · rw [e32]; exact w2 j hj
  · rw [e31]; exact w3
  · rw [e30]; exact f s h1 h2
  · obtain ⟨l, p1, p2, p3, p4, p5⟩ := hp
    unfold gpOk jgE
    rw [e26, e27, e28]
    refine ⟨l, p1, p2, p3, fun g hg => ?_, fun k hk => ?_⟩
    · show H.1 60 g = _ ∧ H.2 61 g = _
      rw [(eg g hg).1, (eg g hg).2]; exact p4 g hg
    · show H.1 62 k = _
      rw [(es k hk).2.2.1]; exact p5 k hk
  · rw [(eg x hx).1, (eg o ho).1]; exact hc x o hx ho
/-- all that is told, judged, held -/
def KS (h : ia_H) (ts : Nat → tdT) (u p : Nat) : Prop := tdOk (ts u) ∧ cRep h 4 (ts u) ∧ mRep h (ts u) ∧ dvOk h (ts u) ∧ aC h ts u p ∧ aM h ts u ∧ ltB h 4 ∧ imOk h 0 ∧ imOk h 1
def Jx (h : ia_H) : Prop := (∃ ts u p, KS h ts u p) ∧ (∃ L, tpOk h L) ∧ pnOk h
theorem KS_fr {h H : ia_H} {ts : Nat → tdT} {u p : Nat} (hk : KS h ts u p) (e1 : ∀ y, ((4 ≤ y ∧ y ≤ 28) ∨ (30 ≤ y ∧ y ≤ 33) ∨ (43 ≤ y ∧ y ≤ 46) ∨ y = 51 ∨ y = 54 ∨ (56 ≤ y ∧ y ≤ 65)) → H.1 y = h.1 y) (e52 : H.1 52 4 = h.1 52 4 ∧ H.1 52 10 = h.1 52 10 ∧ H.1 52 22 = h.1 52 22) (e2 : H.2 = h.2) : KS H ts u p := by
  obtain ⟨k1, k2, k3, k4, k5, k6, k7, k8, k9⟩ := hk
  refine ⟨k1, cRep_fr k2 (fun y q1 q2 => e1 y (by omega)) (by rw [e2]), mRep_fr k3 e52.1 e52.2.1 (e1 _ (by omega)) (e1 _ (by omega)) (e1 _ (by omega)) (e1 _ (by omega)) (by rw [e2]), ?_, aC_fr k5 (fun y q1 q2 => e1 y (by omega)), aM_fr k6 e52.2.2 (fun i _ => by rw [e1 63 (by omega)]) (fun i _ => by rw [e2]), ltB_fr k7 (e1 _ (by omega)), imOk_fr k8 (by decide) (by rw [e1 51 (by omega)]) (by rw [e1 65 (by omega)]) (fun y q1 q2 => e1 y (by omega)) (by rw [e2]) (fun i _ => by rw [e1 63 (by omega)]) (fun i _ => by rw [e2]), imOk_fr k9 (by decide) (by rw [e1 51 (by omega)]) (by rw [e1 65 (by omega)]) (fun y q1 q2 => e1 y (by omega)) (by rw [e2]) (fun i _ => by rw [e1 63 (by omega)]) (fun i _ => by rw [e2])⟩
  refine dvOk_fr k4 ⟨e52.1, e52.2.1⟩ (by rw [e1 4 (by omega)]; exact ⟨rfl, rfl⟩) (fun s _ => ?_) (fun g _ => ?_) (e1 _ (by omega)) (e1 _ (by omega)) (by rw [e2]) (fun y q1 q2 => e1 y (by omega))
  · rw [e1 56 (by omega), e1 57 (by omega), e1 62 (by omega), e1 7 (by omega), e1 8 (by omega)]
    exact ⟨rfl, rfl, rfl, rfl, rfl⟩
  · rw [e1 60 (by omega), e2]
    exact ⟨rfl, rfl⟩
/-- both answer alike, and the invariant stays -/
abbrev JQ (a : Nat) (as : List Value) (b : Nat) (bs : List Value) (h : ia_H) : Prop := V_ a as h (fun r h1 => V_ b bs h1 (fun r2 h2 => r2 = r ∧ Jx h2))
theorem Jx_S {h H : ia_H} (hj : Jx h) (hf : frS h H) : Jx H := by
  obtain ⟨⟨ts, u, p, hk⟩, ⟨L, t1, t2, t3, t4⟩, p1, p2⟩ := hj
  have x := hf.1
  refine ⟨⟨ts, u, p, KS_fr hk (fun y hy => x y (by omega)) (by rw [x 52 (by omega)]; exact ⟨rfl, rfl, rfl⟩) hf.2⟩, ⟨L, t1, by rw [x 2 (by omega)]; exact t2, by rw [x 52 (by omega)]; exact t3, fun j hj => ?_⟩, fun i hi => ?_, fun i hi => ?_⟩
  · rw [x 3 (by omega), x 53 (by omega)]; exact t4 j hj
  · rw [x 48 (by omega), x 75 (by omega)]; exact p1 i hi
  · rw [x 49 (by omega), x 74 (by omega)]; exact p2 i hi
theorem JQ_P {a : Nat} {as : List Value} {b : Nat} {bs : List Value} {h : ia_H} (hj : Jx h) (hp : P_ a as b bs h) : JQ a as b bs h := by
  obtain ⟨r, h1, ev, z1, r2, h2, ev2, z2, z3⟩ := hp
  exact ⟨r, h1, ev, r2, h2, ev2, z2, Jx_S hj z3⟩
theorem JQ_Q {a : Nat} {as : List Value} {b : Nat} {bs : List Value} {h : ia_H} (hj : Jx h) (hq : Q_ a as b bs h) : JQ a as b bs h := JQ_P hj (Q_P hq)
theorem Jx_T {h H : ia_H} (hj : Jx h) (hf : frT h H) (ht : ∃ L, tpOk H L) : Jx H := by
  obtain ⟨⟨ts, u, p, hk⟩, -, p1, p2⟩ := hj
  have x := hf.1
  refine ⟨⟨ts, u, p, KS_fr hk (fun y hy => x y (by omega) (by omega) (by omega) (by omega)) ⟨hf.2.2.1 4 (by decide), hf.2.2.1 10 (by decide), hf.2.2.1 22 (by decide)⟩ hf.2.2.2⟩, ht, fun i hi => ?_, fun i hi => ?_⟩
  · rw [x 48 (by decide) (by decide) (by decide) (by decide), x 75 (by decide) (by decide) (by decide) (by decide)]; exact p1 i hi
  · rw [x 49 (by decide) (by decide) (by decide) (by decide), x 74 (by decide) (by decide) (by decide) (by decide)]; exact p2 i hi
theorem Jx_Pn {h H : ia_H} (hj : Jx h) (hf : frP h H) (hp : pnOk H) : Jx H := by
  obtain ⟨⟨ts, u, p, hk⟩, ⟨L, t1, t2, t3, t4⟩, -⟩ := hj
  have x := hf.1
  refine ⟨⟨ts, u, p, KS_fr hk (fun y hy => x y (by omega) (by omega) (by omega) (by omega)) (by rw [x 52 (by decide) (by decide) (by decide) (by decide)]; exact ⟨rfl, rfl, rfl⟩) hf.2⟩, ⟨L, t1, by rw [x 2 (by decide) (by decide) (by decide) (by decide)]; exact t2, by rw [x 52 (by decide) (by decide) (by decide) (by decide)]; exact t3, fun j hj => ?_⟩, hp⟩
  rw [x 3 (by decide) (by decide) (by decide) (by decide), x 53 (by decide) (by decide) (by decide) (by decide)]; exact t4 j hj
/-! the questions and small acts, each with the invariant -/
theorem j_feed {h : ia_H} (hj : Jx h) (a b c d f : Int32) : JQ 63 [.ref 0, .int a, .int b, .int c, .int d, .int f] 98 [.ref 52, .int a, .int b, .int c, .int d, .int f] h := by
  obtain ⟨L, ht⟩ := hj.2.1
  obtain ⟨r, h1, ev, r2, h2, ev2, z2, z3, z4⟩ := q_feed ht a b c d f
  exact ⟨r, h1, ev, r2, h2, ev2, z2, Jx_T hj z3 z4⟩
theorem j_end {h : ia_H} (hj : Jx h) (x : Int32) : JQ 64 [.ref 0, .int x] 99 [.ref 52, .int x] h := by
  obtain ⟨L, ht⟩ := hj.2.1
  obtain ⟨r, h1, ev, r2, h2, ev2, z2, z3, z4⟩ := q_end ht x
  exact ⟨r, h1, ev, r2, h2, ev2, z2, Jx_T hj z3 z4⟩
theorem j_pin {h : ia_H} (hj : Jx h) (x y z : Int32) : JQ 84 [.ref 0, .int x, .int y, .int z] 159 [.ref 52, .int x, .int y, .int z] h := by
  obtain ⟨⟨ts, u, p, k1, k2, k3, k4, k5, k6, k7, k8, k9⟩, ht, hp⟩ := hj
  obtain ⟨r, h1, ev, r2, h2, ev2, z2, z3, z4⟩ := q_pin k1.2.2.1 k2.2.1 k3.2.1 (fun s hs => ((k3.2.2.2 s hs).2.1).trans ((k2.2.2.2.2 s hs).2.1).symm) hp x y z
  exact ⟨r, h1, ev, r2, h2, ev2, z2, Jx_Pn ⟨⟨ts, u, p, k1, k2, k3, k4, k5, k6, k7, k8, k9⟩, ht, hp⟩ z3 z4⟩
theorem j_pinned {h : ia_H} (hj : Jx h) (x y : Int32) : JQ 85 [.ref 0, .int x, .int y] 160 [.ref 52, .int x, .int y] h := JQ_Q hj (q_pinned hj.2.2 x y)
theorem j_amount {h : ia_H} (hj : Jx h) (x : Int32) : JQ 71 [.ref 0, .int x] 136 [.ref 52, .int x] h := by
  obtain ⟨ts, u, p, k1, k2, k3, -⟩ := hj.1
  exact JQ_Q hj (q_amount k1.2.2.1 k2.2.1 k3.2.1 (fun s hs => ((k3.2.2.2 s hs).2.2.1).trans ((k2.2.2.2.2 s hs).2.2.1).symm) x)
theorem j_offset {h : ia_H} (hj : Jx h) (x : Int32) : JQ 75 [.ref 0, .int x] 141 [.ref 52, .int x] h := by
  obtain ⟨ts, u, p, k1, k2, k3, ⟨sd, A, B, hw, hp, hc⟩, -⟩ := hj.1
  exact JQ_Q hj (q_offset k1.2.1 k2.1 k3.1 (fun s hs => (gp_eq hp hs).2) x)
theorem j_difference {h : ia_H} (hj : Jx h) (x y : Int32) : JQ 74 [.ref 0, .int x, .int y] 140 [.ref 52, .int x, .int y] h := by
  obtain ⟨ts, u, p, k1, k2, k3, ⟨sd, A, B, hw, hp, hc⟩, -⟩ := hj.1
  exact JQ_Q hj (q_difference k1.2.1 k2.1 k3.1 (fun s hs => gp_eq hp hs) x y)
theorem j_group {h : ia_H} (hj : Jx h) (x y : Int32) : JQ 76 [.ref 0, .int x, .int y] 142 [.ref 52, .int x, .int y] h := by
  obtain ⟨ts, u, p, k1, k2, k3, ⟨sd, A, B, hw, hp, hc⟩, -⟩ := hj.1
  exact JQ_Q hj (q_group k1.2.1 k2.1 k3.1 hp x y)
theorem j_order {h : ia_H} (hj : Jx h) (x y : Int32) : JQ 77 [.ref 0, .int x, .int y] 145 [.ref 52, .int x, .int y] h := by
  obtain ⟨ts, u, p, k1, k2, k3, ⟨sd, A, B, hw, hp, hc⟩, -⟩ := hj.1
  exact JQ_P hj (q_order k1.2.1 k2.1 k3.1 hp x y)
theorem j_span {h : ia_H} (hj : Jx h) (x : Int32) : JQ 78 [.ref 0, .int x] 146 [.ref 52, .int x] h := by
  obtain ⟨ts, u, p, k1, k2, k3, ⟨sd, A, B, hw, hp, hc⟩, -⟩ := hj.1
  exact JQ_P hj (q_span k1.2.1 k2.1 k3.1 hp x)
theorem j_mean {h : ia_H} (hj : Jx h) (x : Int32) : JQ 79 [.ref 0, .int x] 147 [.ref 52, .int x] h := by
  obtain ⟨ts, u, p, k1, k2, k3, ⟨sd, A, B, hw, hp, hc⟩, -⟩ := hj.1
  exact JQ_Q hj (q_mean k1.2.1 k2.1 k3.1 hp x)
theorem j_twos {h : ia_H} (hj : Jx h) (m : Int64) : JQ 80 [.ref 0, .long m] 148 [.ref 52, .long m] h := by
  obtain ⟨ts, u, p, k1, k2, k3, ⟨sd, A, B, hw, hp, hc⟩, -⟩ := hj.1
  exact JQ_Q hj (q_twos k1.2.1 k3.1 hp m)
theorem j_chain {h : ia_H} (hj : Jx h) (x y z : Int32) : JQ 81 [.ref 0, .int x, .int y, .int z] 152 [.ref 52, .int x, .int y, .int z] h := by
  obtain ⟨ts, u, p, k1, k2, k3, ⟨sd, A, B, hw, hp, hc⟩, -⟩ := hj.1
  exact JQ_P hj (q_chain hw hc x y z)
theorem j_cut {h : ia_H} (hj : Jx h) (x y : Int32) : JQ 82 [.ref 0, .int x, .int y] 158 [.ref 52, .int x, .int y] h := by
  obtain ⟨ts, u, p, k1, k2, k3, ⟨sd, A, B, hw, hp, hc⟩, -⟩ := hj.1
  exact JQ_P hj (q_cut hw x y)
theorem j_blame {h : ia_H} (hj : Jx h) (x : Int32) : JQ 83 [.ref 0, .int x] 153 [.ref 52, .int x] h := by
  obtain ⟨ts, u, p, k1, k2, k3, ⟨sd, A, B, hw, hp, hc⟩, -⟩ := hj.1
  exact JQ_P hj (q_blame hw hc x)
theorem j_statement {h : ia_H} (hj : Jx h) (x y : Int32) : JQ 70 [.ref 0, .int x, .int y] 135 [.ref 52, .int x, .int y] h := by
  obtain ⟨ts, u, p, k1, k2, k3, ⟨sd, A, B, hw, hp, hc⟩, -⟩ := hj.1
  exact JQ_P hj (q_st hw hc x y)
theorem j_count {h : ia_H} (hj : Jx h) (x : Int32) : JQ 88 [.ref 0, .int x] 164 [.ref 52, .int x] h := by
  have hj0 := hj
  obtain ⟨⟨ts, u, p, k1, k2, k3, ⟨sd, A, B, hw, hp, hc⟩, k5, k6, -⟩, ⟨L, t1, t2, t3, -⟩, -⟩ := hj
  exact JQ_P hj0 (q_count hw hp hc ⟨(k5.2.2.2.1).trans (k6.2.1).symm, t2.trans t3.symm⟩ x)
theorem j_letter {h : ia_H} (hj : Jx h) (x y : Int32) : JQ 73 [.ref 0, .int x, .int y] 139 [.ref 52, .int x, .int y] h := by
  obtain ⟨ts, u, p, k1, k2, k3, -⟩ := hj.1
  refine JQ_P hj (q_letter (ln := fun g => if g = 0 then 0 else tdL (ts u) g) (lt := tdC (ts u)) k1.2.1 k2.1 k3.1 ⟨k2.2.2.1, if_pos rfl, fun g g1 g2 => ?_⟩ x y)
  obtain ⟨o1, o2, o3⟩ := k1.2.2.2.1 g g1 g2
  obtain ⟨c1, c2⟩ := k2.2.2.2.1 g g1 g2
  obtain ⟨m1, m2⟩ := k3.2.2.1 g g1 g2
  show 1 ≤ (if g = 0 then 0 else tdL (ts u) g) ∧ (if g = 0 then 0 else tdL (ts u) g) ≤ 6 ∧ h.1 6 g = nI (if g = 0 then 0 else tdL (ts u) g) ∧ h.1 54 (7 * g) = nI (if g = 0 then 0 else tdL (ts u) g) ∧ ∀ k, k < (if g = 0 then 0 else tdL (ts u) g) → _
  rw [if_neg (by omega)]
  exact ⟨o1, o2, c1, m1, fun k hk => ⟨(o3 k hk).1, (o3 k hk).2, c2 k hk, m2 k hk⟩⟩
