/-! gauge: both sides -/
def ML (h H : ia_H) (f : Nat → Int32) (L pl : Nat) : Prop := ((∀ y, y ≠ 52 → y ≠ 55 → H.1 y = h.1 y) ∧ H.2 = h.2 ∧ ∀ j, j ≠ 2 → H.1 52 j = h.1 52 j) ∧ tpM H f L pl ∧ True
theorem ML_at {h H : ia_H} {f : Nat → Int32} {L pl : Nat} (hm : ML h H f L pl) {q : Nat} (hq : q ≤ L) : ML h (hAt H q) f L q := by
  obtain ⟨⟨m1, m2, m3⟩, m4, -⟩ := hm
  refine ⟨⟨fun y h1 h2 => ?_, m2, fun j h1 => ?_⟩, tpM_at m4 hq, trivial⟩
  · show (if y = 52 then _ else H.1 y) = _
    rw [if_neg h1]
    exact m1 y h1 h2
  · show upd (H.1 52) 2 _ j = _
    rw [updn h1]
    exact m3 j h1
theorem ML_55 {h H : ia_H} {f : Nat → Int32} {L pl : Nat} (hm : ML h H f L pl) (g : Nat → Int32) : ML h (hsI H 55 g) f L pl := by
  obtain ⟨⟨m1, m2, m3⟩, m4, -⟩ := hm
  refine ⟨⟨fun y h1 h2 => ?_, m2, m3⟩, m4, trivial⟩
  show (if y = 55 then _ else H.1 y) = _
  rw [if_neg h2]
  exact m1 y h1 h2
theorem l_rl0 {h : ia_H} {f : Nat → Int32} {L p0 : Nat} {Z : Option Value → ia_H → Prop} : ∀ (k pl : Nat) (H : ia_H), pl + k = L → p0 ≤ pl → ML h H f L pl → lyOk H f p0 (pl - p0) → (∀ H', ML h H' f L (rn (isLt f L) L pl) → lyOk H' f p0 (rn (isLt f L) L pl - p0) → H'.1 55 0 = nI (rn (isLt f L) L pl - p0) → Z (some (.int (if 6 < rn (isLt f L) L pl - p0 then -1 else nI (rn (isLt f L) L pl - p0)))) H') → R_ ia_k_X8_readsLetters Z (2, [some (.ref 52), some (.int (nI (pl - p0)))], [], H) := by
  have hend : ∀ (pl : Nat) (H : ia_H), p0 ≤ pl → ML h H f L pl → lyOk H f p0 (pl - p0) → (∀ H', ML h H' f L pl → lyOk H' f p0 (pl - p0) → H'.1 55 0 = nI (pl - p0) → Z (some (.int (if 6 < pl - p0 then -1 else nI (pl - p0)))) H') → R_ ia_k_X8_readsLetters Z (59, [some (.ref 52), some (.int (nI (pl - p0)))], [], H) := by
    intro pl H h0 hm hly hZ
    have hple := hm.2.1.2.1
    have hL := hm.2.1.1
    have hZ2 := hZ (hsI H 55 (upd (H.1 55) 0 (nI (pl - p0)))) (ML_55 hm _) (fun k h1 h2 => by
      show upd (H.1 55) 0 _ (1 + k) = _
      rw [updn (by omega)]
      exact hly k h1 h2) rfl
    refine ia_walk (fun _ => false) 60 (fun X hX => ?_)
    conv => whnf
    refine Exists.intro 0 (And.intro (And.intro rfl (by decide)) ?_)
    conv => whnf
    refine And.intro (fun c => ?_) (fun c => ?_)
    · have c : (6 : Int32) < nI (pl - p0) := c
      rw [if_pos ((nI_lt_iff (a := 6) (by omega) (by omega)).mp c)] at hZ2
      conv => whnf
      exact hZ2
    · have c : ¬ (6 : Int32) < nI (pl - p0) := c
      rw [if_neg (fun z => c (nI_lt (a := 6) z (by omega)))] at hZ2
      conv => whnf
      exact hZ2
  intro k
  induction k with
  | zero =>
    intro pl H hk h0 hm hly hZ
    have hb : ∀ i, i < L → byR (f i) := fun i hi => (hm.2.1.2.2.2.2 i hi).2
    have q := isLt_o f L pl (by omega)
    rw [rn_f q] at hZ
    refine ia_walk (fun pc => Nat.beq pc 59) 60 (fun X hX => ?_)
    conv => whnf
    refine Exists.intro (_, _) (And.intro (ia_callE (m_byteAtE hm.2.1)) ?_)
    conv => whnf
    obtain ⟨v, ev, ev'⟩ := ia_callN (m_isLetter (h := H) hb pl)
    refine Exists.intro (_, _) (And.intro ev' ?_)
    clear ev'
    conv => whnf
    refine And.intro (fun c => ?_) (fun c => ?_)
    · conv => whnf
      exact hX _ (hend pl H h0 hm hly hZ)
    · rw [q] at ev
      exact absurd ev c
  | succ k ih =>
    intro pl H hk h0 hm hly hZ
    have hL := hm.2.1.1
    have e2 := hm.2.1.2.2.2.1
    have hb : ∀ i, i < L → byR (f i) := fun i hi => (hm.2.1.2.2.2.2 i hi).2
    refine ia_walk (fun pc => Nat.beq pc 2 || Nat.beq pc 43 || Nat.beq pc 59) 60 (fun X hX => ?_)
    conv => whnf
    refine Exists.intro (_, _) (And.intro (ia_callE (m_byteAtE hm.2.1)) ?_)
    conv => whnf
    obtain ⟨v, ev, ev'⟩ := ia_callN (m_isLetter (h := H) hb pl)
    refine Exists.intro (_, _) (And.intro ev' ?_)
    clear ev'
    conv => whnf
    refine And.intro (fun c => ?_) (fun c => ?_)
    · have q : isLt f L pl = false := oI_0.mp (ev.symm.trans c)
      rw [rn_f q] at hZ
      conv => whnf
      exact hX _ (hend pl H h0 hm hly hZ)
    · have q : isLt f L pl = true := by
        cases hq : isLt f L pl
        · rw [hq] at ev; exact absurd ev c
        · rfl
      rw [rn_t (by omega) q] at hZ
      have step : ∀ K : ia_H, ML h K f L pl → lyOk K f p0 (pl + 1 - p0) → R_ ia_k_X8_readsLetters Z (43, [some (.ref 52), some (.int (nI (pl - p0)))], [], K) := by
        intro K hK hlK
        have nx := ih (pl + 1) (hAt K (pl + 1)) (by omega) (by omega) (ML_at hK (by omega)) hlK hZ
        rw [← at_u hK.2.1.2.2.2.1, show pl + 1 - p0 = pl - p0 + 1 by omega, ← nI_1] at nx
        refine ia_walk (fun pc => Nat.beq pc 2) 60 (fun X hX => ?_)
        conv => whnf
        exact hX _ (nx)
      conv => whnf
      refine And.intro (fun c2 => ?_) (fun c2 => ?_)
      · have c2 : nI (pl - p0) < 6 := c2
        have hlt : pl - p0 < 6 := (nI_ltI (b := 6) (by omega) (by decide)).mp c2
        have i1 : (1 : Int32) + nI (pl - p0) = nI (1 + (pl - p0)) := nI_add 1 (pl - p0)
        conv => whnf
        refine Exists.intro (_, _) (And.intro (ia_callE (m_byteAtE hm.2.1)) ?_)
        conv => whnf
        refine Exists.intro (1 + (pl - p0)) (And.intro (And.intro (i1) (by omega)) ?_)
        conv => whnf
        refine hX _ (step _ ?_ ?_)
        · exact ML_55 hm _
        · intro k h1 h2
          show upd (H.1 55) (1 + (pl - p0)) (hrV f L pl - 97 + 1) (1 + k) = _
          by_cases e : k = pl - p0
          · rw [e, updp, lv97 q, show p0 + (pl - p0) = pl by omega]
          · rw [updn (by omega)]
            exact hly k (by omega) h2
      · have c2 : ¬ nI (pl - p0) < 6 := c2
        have hlt : ¬ pl - p0 < 6 := fun z => c2 (nI_lt (b := 6) z (by omega))
        conv => whnf
        exact hX _ (step H hm (fun k h1 h2 => hly k (by omega) h2))
theorem m_readsL0 {h H : ia_H} {f : Nat → Int32} {L pl : Nat} (hm : ML h H f L pl) : V_ 106 [.ref 52] H (fun r H' => r = some (.int (if 6 < rn (isLt f L) L pl - pl then -1 else nI (rn (isLt f L) L pl - pl))) ∧ ML h H' f L (rn (isLt f L) L pl) ∧ lyOk H' f pl (rn (isLt f L) L pl - pl) ∧ H'.1 55 0 = nI (rn (isLt f L) L pl - pl)) := by
  have hl := l_rl0 (h := h) (f := f) (L := L) (p0 := pl) (Z := fun r H' => r = some (.int (if 6 < rn (isLt f L) L pl - pl then -1 else nI (rn (isLt f L) L pl - pl))) ∧ ML h H' f L (rn (isLt f L) L pl) ∧ lyOk H' f pl (rn (isLt f L) L pl - pl) ∧ H'.1 55 0 = nI (rn (isLt f L) L pl - pl)) (L - pl) pl H (by have := hm.2.1.2.1; omega) (Nat.le_refl _) hm (fun k h1 _ => by omega) (fun H' q1 q2 q3 => ⟨rfl, q1, q2, q3⟩)
  rw [Nat.sub_self] at hl
  refine ia_V_in ia_k_X8_readsLetters [some (.ref 52), none] rfl rfl (Nat.le_of_ble_eq_true rfl) rfl ?_
  refine ia_walk (fun pc => Nat.beq pc 2) 60 (fun X hX => ?_)
  conv => whnf
  exact hX _ (hl)
theorem j_gauge {h : ia_H} (hj : Jx h) : JQ 72 [.ref 0] 137 [.ref 52] h := by
  obtain ⟨⟨ts, u, p, k1, k2, k3, k4, k5, k6, k7, k8, k9⟩, ⟨L, t1, t2, t3, t4⟩, hpn⟩ := hj
  have hks : KS h ts u p := ⟨k1, k2, k3, k4, k5, k6, k7, k8, k9⟩
  have oG := k1.2.1
  have o1 := k1.1
  have hb : ∀ i, i < L → byR (h.1 3 i) := fun i hi => (t4 i hi).2
  have vf := v_find (h := h) k1 k2.2.2 (f := h.1 3) rfl (pl := 0) (len := L) (L := L) t1 (by omega) (fun k hk => by rw [Nat.zero_add]; exact hb k hk)
  obtain ⟨f1, f2⟩ : 1 ≤ fnR (ts u) (h.1 3) 0 L ∧ fnR (ts u) (h.1 3) 0 L ≤ tdG (ts u) := rn_le _ o1
  generalize hv : (if fnR (ts u) (h.1 3) 0 L < tdG (ts u) then nI (fnR (ts u) (h.1 3) 0 L) else -1) = v at vf
  have e46 := k2.1
  refine ⟨some (.int v), hsI h 2 (upd (h.1 2) 1 0), ?_, ?_⟩
  · have hV : V_ 72 [.ref 0] h (fun r h' => r = some (.int v) ∧ h' = hsI h 2 (upd (h.1 2) 1 0)) := by
      refine ia_V_in ia_k_X7_gauge [some (.ref 0), none, none] rfl rfl (Nat.le_of_ble_eq_true rfl) rfl ?_
      refine ia_walk (fun _ => false) 60 (fun X hX => ?_)
      conv => whnf
      have evf := ia_callE vf
      rw [← e46, ← t2] at evf
      refine Exists.intro (_, _) (And.intro evf ?_)
      conv => whnf
      exact ⟨rfl, rfl⟩
    exact ia_callE hV
  · have tpm : tpM (hsI (hsI h 2 (upd (h.1 2) 1 0)) 52 (upd (h.1 52) 2 0)) (h.1 3) L 0 := ⟨t1, Nat.zero_le _, t3, rfl, fun j hj => ⟨(t4 j hj).1.symm, (t4 j hj).2⟩⟩
    have hm : ML (hsI (hsI h 2 (upd (h.1 2) 1 0)) 52 (upd (h.1 52) 2 0)) (hsI (hsI h 2 (upd (h.1 2) 1 0)) 52 (upd (h.1 52) 2 0)) (h.1 3) L 0 := ⟨⟨fun _ _ _ => rfl, rfl, fun _ _ => rfl⟩, tpm, trivial⟩
    obtain ⟨r1, K1, ev1, z1, z2, z3, z4⟩ := m_readsL0 hm
    obtain ⟨e1, e2⟩ := rn_le (isLt (h.1 3) L) (Nat.zero_le L)
    have hlet : ∀ k, k < rn (isLt (h.1 3) L) L 0 → isLt (h.1 3) L k = true := fun k hk => rn_in (p := isLt (h.1 3) L) (L := L) (j := 0) (Nat.zero_le _) hk
    have hout := rn_out (p := isLt (h.1 3) L) (L := L) (j := 0) (isLt_o _ _) (Nat.zero_le L)
    rw [Nat.sub_zero] at z1 z3 z4
    generalize hE : rn (isLt (h.1 3) L) L 0 = e at *
    subst z1
    obtain ⟨⟨n1, n2, n3⟩, n4, -⟩ := z2
    have eL : K1.1 52 1 = nI L := n4.2.2.1
    have ee : K1.1 52 2 = nI e := n4.2.2.2.1
    have f52 : ∀ j, j ≠ 2 → K1.1 52 j = h.1 52 j := fun j hj => by
      rw [n3 j hj]
      show upd (h.1 52) 2 0 j = _
      rw [updn hj]
    have fy : ∀ y, y ≠ 2 → y ≠ 52 → y ≠ 55 → K1.1 y = h.1 y := fun y a b c => by
      rw [n1 y b c]
      show (if y = 52 then _ else if y = 2 then _ else h.1 y) = _
      rw [if_neg b, if_neg a]
    have fl : K1.2 = h.2 := by rw [n2]; rfl
    -- the answer is the class's
    have hJ2 : Jx (hsI K1 52 (upd (K1.1 52) 1 0)) := by
      have g : ∀ y, y ≠ 2 → y ≠ 52 → y ≠ 55 → (hsI K1 52 (upd (K1.1 52) 1 0)).1 y = h.1 y := fun y a b c => by
        rw [hsI_ne K1 _ b]
        exact fy y a b c
      refine ⟨⟨ts, u, p, KS_fr hks (fun y hy => g y (by omega) (by omega) (by omega)) ⟨f52 4 (by decide), f52 10 (by decide), f52 22 (by decide)⟩ fl⟩, tp_0 ?_ rfl, pn_fr hpn (fun y hy => g y (by omega) (by omega) (by omega))⟩
      show K1.1 2 1 = 0
      rw [n1 2 (by decide) (by decide)]
      rfl
    have mrK : mDat K1 (ts u) := by
      have := k3.2.2
      unfold mDat at this ⊢
      rw [fy 54 (by decide) (by decide) (by decide), fy 56 (by decide) (by decide) (by decide), fy 57 (by decide) (by decide) (by decide), fy 59 (by decide) (by decide) (by decide), fl]
      exact this
    have none_of : (e < L ∨ 6 < L ∨ L = 0) → v = -1 := by
      intro hq
      rw [← hv]
      refine if_neg (fun hlt => ?_)
      have hp := rn_out (p := fun g => decide (g < tdG (ts u)) && !@decide (nmP (ts u) (h.1 3) 0 L g) (Classical.propDecidable _)) (L := tdG (ts u)) (j := 1) (fun i hi => by rw [decide_eq_false (by omega), Bool.false_and]) o1
      have hp : (decide (fnR (ts u) (h.1 3) 0 L < tdG (ts u)) && !@decide (nmP (ts u) (h.1 3) 0 L (fnR (ts u) (h.1 3) 0 L)) (Classical.propDecidable _)) = false := hp
      rw [decide_eq_true hlt, Bool.true_and] at hp
      have hp : nmP (ts u) (h.1 3) 0 L (fnR (ts u) (h.1 3) 0 L) := Classical.byContradiction (fun z => by
        rw [@decide_eq_false _ (Classical.propDecidable _) z] at hp
        cases hp)
      obtain ⟨o2, o3, o4⟩ := k1.2.2.2.1 _ f1 hlt
      obtain ⟨p1, p2⟩ := hp
      rcases hq with hq | hq | hq
      · have q := p2 e hq
        rw [Nat.zero_add] at q
        have o5 := o4 e (by omega)
        have : isLt (h.1 3) L e = true := by
          unfold isLt
          rw [decide_eq_true hq, q, decide_eq_true (show (97 : Int32) ≤ nI (96 + tdC (ts u) (fnR (ts u) (h.1 3) 0 L) e) from Int32.not_lt.mp (nI_nlt (b := 97) (by omega) (by omega))), decide_eq_true (show nI (96 + tdC (ts u) (fnR (ts u) (h.1 3) 0 L) e) ≤ 122 from Int32.not_lt.mp (nI_nlt (a := 122) (by omega) (by omega)))]
          rfl
        rw [this] at hout
        cases hout
      · omega
      · omega
    refine ia_V_in ia_k_X8_gauge [some (.ref 52), none, none] rfl rfl (Nat.le_of_ble_eq_true rfl) rfl ?_
    refine ia_walk (fun _ => false) 60 (fun X hX => ?_)
    conv => whnf
    refine Exists.intro (_, _) (And.intro ev1 ?_)
    by_cases q6 : 6 < e
    · rw [if_pos q6]
      have hvn := none_of (by omega)
      conv => whnf
      refine And.intro (fun c => ?_) (fun c => ?_)
      · exact absurd (show (0 : Int32) < -1 from c) (by decide)
      · conv => whnf
        refine And.intro (fun c1 => ?_) (fun c1 => ?_)
        · conv => whnf
          exact ⟨by rw [hvn], hJ2⟩
        · exact absurd rfl c1
    · rw [if_neg q6]
      conv => whnf
      refine And.intro (fun c => ?_) (fun c => ?_)
      · have c : 0 < nI e := c
        have he : 0 < e := Nat.pos_of_ne_zero (fun z => by rw [z] at c; exact absurd c (by decide))
        conv => whnf
        refine And.intro (fun c1 => ?_) (fun c1 => ?_)
        · have c1 : K1.1 52 2 = K1.1 52 1 := c1
          rw [ee, eL] at c1
          have heL : e = L := nI_inj (by omega) (by omega) c1
          have vg := m_gaugeNamed (H := hsI K1 52 (upd (K1.1 52) 1 0)) (f := h.1 3) (pl := 0) (len := e) k1 mrK (by omega) z3 z4 (fun k hk => by rw [Nat.zero_add]; exact (cd_ok (hlet k hk)).2.1)
          have e4 : (hsI K1 52 (upd (K1.1 52) 1 0)).1 52 4 = nI (tdG (ts u)) := (f52 4 (by decide)).trans k3.1
          conv => whnf
          refine And.intro (fun c2 => ?_) (fun c2 => ?_)
          · exact absurd (show (1 : Int32) = 0 from c2) (by decide)
          · conv => whnf
            have evg := ia_callE vg
            rw [← e4] at evg
            refine Exists.intro (_, _) (And.intro evg ?_)
            conv => whnf
            refine ⟨?_, hJ2⟩
            rw [← hv, ← heL, fn_eq k1 (L := L) (fun k hk => by rw [Nat.zero_add]; exact hlet k hk)]
        · have c1 : ¬ K1.1 52 2 = K1.1 52 1 := c1
          rw [ee, eL] at c1
          have heL : ¬ e = L := fun z => c1 (by rw [z])
          have hvn := none_of (by omega)
          conv => whnf
          refine And.intro (fun c2 => ?_) (fun c2 => ?_)
          · conv => whnf
            exact ⟨by rw [hvn], hJ2⟩
          · exact absurd rfl c2
      · have c : ¬ 0 < nI e := c
        have he : e = 0 := Nat.eq_zero_of_not_pos (fun z => c (nI_lt (a := 0) z (by omega)))
        have hvn := none_of (by omega)
        conv => whnf
        refine And.intro (fun c1 => ?_) (fun c1 => ?_)
        · conv => whnf
          exact ⟨by rw [hvn], hJ2⟩
        · exact absurd rfl c1
