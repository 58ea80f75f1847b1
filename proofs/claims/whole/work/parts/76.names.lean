/-! Reader of the class: names -/
theorem rn_congr {p q : Nat → Bool} {L : Nat} : ∀ (k j : Nat), j + k = L → (∀ i, j ≤ i → i < L → p i = q i) → rn p L j = rn q L j
  | 0, j, hk, _ => by
    unfold rn
    rw [show L - j = 0 by omega]
    rfl
  | k + 1, j, hk, h => by
    have ih := rn_congr (p := p) (q := q) (L := L) k (j + 1) (by omega) (fun i h1 h2 => h i (by omega) h2)
    cases hq : q j
    · rw [rn_f hq, rn_f ((h j (Nat.le_refl _) (by omega)).trans hq)]
    · rw [rn_t (by omega) hq, rn_t (by omega) ((h j (Nat.le_refl _) (by omega)).trans hq), ih]
/-- a gauge has just these bytes for its name -/
def nmP (d : tdT) (f : Nat → Int32) (pl len g : Nat) : Prop := tdL d g = len ∧ ∀ k, k < len → f (pl + k) = nI (96 + tdC d g k)
noncomputable def fnR (d : tdT) (f : Nat → Int32) (pl len : Nat) : Nat := rn (fun g => decide (g < tdG d) && !@decide (nmP d f pl len g) (Classical.propDecidable _)) (tdG d) 1
theorem v_find {h : ia_H} {d : tdT} (hok : tdOk d) (hc : cDat h 4 d) {f : Nat → Int32} (ef : h.1 3 = f) {pl len L : Nat} (hL : L ≤ 300) (hpl : pl + len ≤ L) (hcd : ∀ k, k < len → byR (f (pl + k))) : V_ 36 [.ref 4, .ref 2, .int (nI pl), .int (nI len), .int (nI (tdG d))] h (Zi_ (if fnR d f pl len < tdG d then nI (fnR d f pl len) else -1) h) := by
  have oG := hok.2.1
  have o1 := hok.1
  have loop : ∀ (k g : Nat), g + k = tdG d → 1 ≤ g → fnR d f pl len = rn (fun g => decide (g < tdG d) && !@decide (nmP d f pl len g) (Classical.propDecidable _)) (tdG d) g → R_ ia_k_X5_find (Zi_ (if fnR d f pl len < tdG d then nI (fnR d f pl len) else -1) h) (3, [some (.ref 4), some (.ref 2), some (.int (nI pl)), some (.int (nI len)), some (.int (nI (tdG d))), some (.int (nI g))], [], h) := by
    intro k
    induction k with
    | zero =>
      intro g hk g1 e
      have hk : g = tdG d := by omega
      rw [rn_f (by rw [decide_eq_false (by omega), Bool.false_and])] at e
      refine ia_walk (fun pc => Nat.beq pc 3) 60 (fun X hX => ?_)
      conv => whnf
      refine And.intro (fun c => ?_) (fun c => ?_)
      · exact absurd (show nI g < nI (tdG d) from c) (nI_nlt (by omega) (by omega))
      · conv => whnf
        exact ⟨by rw [if_neg (by omega)], rfl⟩
    | succ k ih =>
      intro g hk g1 e
      have g2 : g < tdG d := by omega
      obtain ⟨q1, q2⟩ := hc.2.1 g g1 g2
      have q1 : h.1 6 g = nI (tdL d g) := q1
      have oL := (hok.2.2.2.1 g g1 g2).2.1
      have nx : ¬ nmP d f pl len g → R_ ia_k_X5_find (Zi_ (if fnR d f pl len < tdG d then nI (fnR d f pl len) else -1) h) (35, [some (.ref 4), some (.ref 2), some (.int (nI pl)), some (.int (nI len)), some (.int (nI (tdG d))), some (.int (nI g))], [], h) := by
        intro hn
        refine ia_walk (fun pc => Nat.beq pc 3) 60 (fun X hX => ?_)
        conv => whnf
        rw [nI_1]
        refine hX _ (ih (g + 1) (by omega) (by omega) (e.trans (rn_t g2 ?_)))
        rw [decide_eq_true g2, @decide_eq_false _ (Classical.propDecidable _) hn]
        rfl
      refine ia_walk (fun pc => Nat.beq pc 3 || Nat.beq pc 35) 60 (fun X hX => ?_)
      conv => whnf
      refine And.intro (fun c => ?_) (fun c => ?_)
      · conv => whnf
        refine Exists.intro _ (And.intro (And.intro rfl (by omega)) ?_)
        conv => whnf
        refine And.intro (fun c1 => ?_) (fun c1 => ?_)
        · have c1 : h.1 6 g = nI len := c1
          have hle : tdL d g = len := nI_inj (by omega) (by omega) (q1.symm.trans c1)
          conv => whnf
          obtain ⟨v, ev, ev'⟩ := ia_callN (v_isNameAt hok hc ef hL g1 g2 hle hpl hcd)
          refine Exists.intro (_, _) (And.intro ev' ?_)
          clear ev'
          conv => whnf
          refine And.intro (fun c2 => ?_) (fun c2 => ?_)
          · have hn : ¬ ∀ k, k < len → f (pl + k) = nI (96 + tdC d g k) := by
              have := oI_0.mp (ev.symm.trans c2)
              exact of_decide_eq_false this
            conv => whnf
            exact hX _ (nx (fun q => hn q.2))
          · have hy : ∀ k, k < len → f (pl + k) = nI (96 + tdC d g k) := by
              apply Classical.byContradiction
              intro q
              rw [decide_eq_false q] at ev
              exact c2 ev
            have eg : fnR d f pl len = g := by
              rw [e]
              refine rn_f ?_
              rw [@decide_eq_true _ (Classical.propDecidable _) (show nmP d f pl len g from ⟨hle, hy⟩)]
              simp
            conv => whnf
            exact ⟨by rw [eg, if_pos g2], rfl⟩
        · have c1 : ¬ h.1 6 g = nI len := c1
          conv => whnf
          exact hX _ (nx (fun q => c1 (by rw [q1, q.1])))
      · exact absurd (show nI g < nI (tdG d) from nI_lt g2 (by omega)) c
  refine ia_V_in ia_k_X5_find [some (.ref 4), some (.ref 2), some (.int (nI pl)), some (.int (nI len)), some (.int (nI (tdG d))), none] rfl rfl (Nat.le_of_ble_eq_true rfl) rfl ?_
  refine ia_walk (fun pc => Nat.beq pc 3) 60 (fun X hX => ?_)
  conv => whnf
  exact hX _ (loop (tdG d - 1) 1 (by omega) (by omega) rfl)
theorem fn_eq {d : tdT} (hok : tdOk d) {f : Nat → Int32} {L pl len : Nat} (hl : ∀ k, k < len → isLt f L (pl + k) = true) : fnR d f pl len = fnd d f pl len := by
  refine rn_congr (tdG d - 1) 1 (by have := hok.1; omega) (fun g g1 g2 => ?_)
  have o := hok.2.2.2.1 g g1 g2
  have : nmP d f pl len g ↔ nmB d f pl len g = true := by
    unfold nmB nmP
    rw [Bool.and_eq_true, decide_eq_true_eq, nmAl_iff]
    constructor
    · intro ⟨q1, q2⟩
      refine ⟨q1, fun k hk => ?_⟩
      obtain ⟨w1, w2, w3, -⟩ := cd_ok (hl k hk)
      have o3 := o.2.2 k (by omega)
      have := nI_inj (by omega) (by omega) ((q2 k hk).symm.trans w3)
      omega
    · intro ⟨q1, q2⟩
      refine ⟨q1, fun k hk => ?_⟩
      obtain ⟨w1, w2, w3, -⟩ := cd_ok (hl k hk)
      rw [w3, q2 k hk]
  by_cases q : nmB d f pl len g = true
  · show (decide (g < tdG d) && !_) = (decide (g < tdG d) && !nmB d f pl len g)
    rw [q, @decide_eq_true _ (Classical.propDecidable _) (this.mpr q)]
  · show (decide (g < tdG d) && !_) = (decide (g < tdG d) && !nmB d f pl len g)
    rw [@decide_eq_false _ (Classical.propDecidable _) (fun z => q (this.mp z))]
    cases hq : nmB d f pl len g
    · rfl
    · exact absurd hq q
def frR (h H : ia_H) : Prop := (∀ y, y ≠ 1 → y ≠ 2 → (y < 5 ∨ 10 < y) → H.1 y = h.1 y) ∧ ∀ y, y ≠ 9 → H.2 y = h.2 y
/-- the class is reading: d what is told with the drafts, pl where it is, ft its fault -/
def CR (h H : ia_H) (L : Nat) (d : tdT) (pl : Nat) (ft : Int32) : Prop := frR h H ∧ tpC H L pl ∧ H.1 1 1 = nI (tdG d) ∧ H.1 1 2 = nI (tdN d) ∧ H.1 1 3 = ft ∧ cDat H 4 d ∧ ltB H 4 ∧ tdOk d
theorem CR_pl {h H : ia_H} {L pl : Nat} {d : tdT} {ft : Int32} (hc : CR h H L d pl ft) {q : Nat} (hq : q ≤ L) : CR h (hPl H q) L d q ft := by
  obtain ⟨c1, c2, c3, c4, c5, c6, c7, c8⟩ := hc
  refine ⟨⟨fun y h1 h2 h3 => ?_, c1.2⟩, tpC_pl c2 hq, c3, c4, c5, c6, c7, c8⟩
  show (if y = 2 then _ else H.1 y) = _
  rw [if_neg h2]
  exact c1.1 y h1 h2 h3
theorem CR_ft {h H : ia_H} {L pl : Nat} {d : tdT} {ft : Int32} (hc : CR h H L d pl ft) (v : Int32) : CR h (hFt H v) L d pl v := by
  obtain ⟨c1, c2, c3, c4, c5, c6, c7, c8⟩ := hc
  refine ⟨⟨fun y h1 h2 h3 => ?_, c1.2⟩, c2, c3, c4, rfl, c6, c7, c8⟩
  show (if y = 1 then _ else H.1 y) = _
  rw [if_neg h1]
  exact c1.1 y h1 h2 h3
theorem CR_f {h H : ia_H} {L pl : Nat} {d : tdT} {ft : Int32} (hc : CR h H L d pl ft) : H.1 3 = h.1 3 := hc.1.1 3 (by decide) (by decide) (by decide)
theorem pl_u {h : ia_H} {pl : Nat} (e : h.1 2 2 = nI pl) : hsI h 2 (upd (h.1 2) 2 (h.1 2 2 + 1)) = hPl h (pl + 1) := by
  unfold hPl
  rw [e, nI_1]
def hDn (h : ia_H) (G pl len : Nat) : ia_H := hsI (hsI h 6 (upd (h.1 6) G (nI len))) 5 (va_cpy (h.1 3) (h.1 5) pl (6 * G) len)
theorem v_draftName {h : ia_H} {G pl len L : Nat} (hG : G < 41) (hlen : len ≤ 6) (hL : L ≤ 300) (hpl : pl + len ≤ L) (hb : ∀ k, k < len → byR (h.1 3 (pl + k))) : V_ 38 [.ref 4, .int (nI G), .ref 2, .int (nI pl), .int (nI len)] h (fun r h' => r = none ∧ h' = hDn h G pl len) := by
  have e1 : nI G * 6 = nI (6 * G) := by rw [Int32.mul_comm]; exact pk_mul 6 G
  have c1 : (nI pl).toNatClampNeg = pl := nI_clamp (by omega)
  have c2 : (nI G * 6).toNatClampNeg = 6 * G := by rw [e1]; exact nI_clamp (by omega)
  have c3 : (nI len).toNatClampNeg = len := nI_clamp (by omega)
  refine ia_V_in ia_k_X5_draftName [some (.ref 4), some (.int (nI G)), some (.ref 2), some (.int (nI pl)), some (.int (nI len))] rfl rfl (Nat.le_of_ble_eq_true rfl) rfl ?_
  refine ia_walk (fun _ => false) 60 (fun X hX => ?_)
  conv => whnf
  refine Exists.intro _ (And.intro (And.intro rfl (by omega)) ?_)
  conv => whnf
  refine Exists.intro ⟨nI_pos (by omega), by rw [e1]; exact nI_pos (by omega), nI_pos (by omega), by rw [c1, c3]; omega, by rw [c2, c3]; omega, fun i hi => ?_⟩ ?_
  · rw [c3] at hi
    rw [c1]
    exact byF (hb i hi)
  · conv => whnf
    refine ⟨rfl, ?_⟩
    rw [c1, c2, c3]
    rfl
theorem v_readName {h H : ia_H} {L pl : Nat} {d : tdT} (hc : CR h H L d pl 0) : V_ 28 [.ref 1, .ref 4] H (fun r H' => r = some (.int (nmT (h.1 3) L d pl).2.1) ∧ CR h H' L (nmT (h.1 3) L d pl).2.2.1 (nmT (h.1 3) L d pl).2.2.2 (nI (nmT (h.1 3) L d pl).1)) := by
  have ef := CR_f hc
  have hc0 := hc
  obtain ⟨c1, c2, c3, c4, c5, c6, c7, c8⟩ := hc
  obtain ⟨hL, hp, t3, t4⟩ := c2
  have oG := c8.2.1
  obtain ⟨e1, e2⟩ := rn_le (isLt (h.1 3) L) hp
  have hlet : ∀ i, pl ≤ i → i < rn (isLt (h.1 3) L) L pl → isLt (h.1 3) L i = true := fun i h1 h2 => rn_in h1 h2
  have vl := v_pL (h := H) (L := L) (pl := pl) hc0.2.1
  rw [ef] at vl
  generalize hE : rn (isLt (h.1 3) L) L pl = e at *
  have hcE : CR h (hPl H e) L d e 0 := CR_pl hc0 e2
  have faux : ∀ w : Nat, CR h (hFt (hPl H e) (nI (8 * pl + w))) L d e (nI (8 * pl + w)) := fun w => CR_ft hcE _
  have efl : ∀ w, ftF ((hPl H e).1 1 3) (8 * pl + w) = nI (8 * pl + w) := fun w => by
    unfold ftF
    rw [if_pos (show (hPl H e).1 1 3 = 0 from c5)]
  have ebeg : H.1 2 2 = nI pl := t4
  refine ia_V_in ia_k_X3_readName [some (.ref 1), some (.ref 4), none, none, none] rfl rfl (Nat.le_of_ble_eq_true rfl) rfl ?_
  refine ia_walk (fun _ => false) 90 (fun X hX => ?_)
  conv => whnf
  refine Exists.intro (_, _) (And.intro (ia_callE (vl)) ?_)
  conv => whnf
  refine And.intro (fun b1 => ?_) (fun b1 => ?_)
  · have b1 : nI (e - pl) = 0 := b1
    have hz : e = pl := by
      have := nI_inj (b := 0) (by omega) (by omega) b1
      omega
    conv => whnf
    have ev := ia_callE (v_fail (hPl H e) (pl := pl) (w := 1))
    rw [efl, ← ebeg] at ev
    refine Exists.intro (_, _) (And.intro ev ?_)
    conv => whnf
    unfold nmT
    rw [hE, if_pos hz]
    exact ⟨rfl, faux 1⟩
  · have b1 : ¬ nI (e - pl) = 0 := b1
    have hz : ¬ e = pl := fun q => b1 (by rw [q, Nat.sub_self]; rfl)
    conv => whnf
    refine And.intro (fun b2 => ?_) (fun b2 => ?_)
    · have b2 : (6 : Int32) < nI (e - pl) := b2
      have h6 : 6 < e - pl := (nI_lt_iff (a := 6) (by omega) (by omega)).mp b2
      conv => whnf
      have ev := ia_callE (v_fail (hPl H e) (pl := pl) (w := 2))
      rw [efl, ← ebeg] at ev
      refine Exists.intro (_, _) (And.intro ev ?_)
      conv => whnf
      unfold nmT
      rw [hE, if_neg hz, if_pos h6]
      exact ⟨rfl, faux 2⟩
    · have b2 : ¬ (6 : Int32) < nI (e - pl) := b2
      have h6 : ¬ 6 < e - pl := fun q => b2 (nI_lt (a := 6) q (by omega))
      have hbytes : ∀ k, k < e - pl → isLt (h.1 3) L (pl + k) = true := fun k hk => hlet _ (by omega) (by omega)
      conv => whnf
      have vf := v_find (h := hPl H e) c8 c6 (f := h.1 3) ef (pl := pl) (len := e - pl) (L := L) hL (by omega) (fun k hk => (cd_ok (hbytes k hk)).2.2.2.2)
      rw [fn_eq c8 hbytes] at vf
      obtain ⟨v, ev, evf⟩ := ia_callN (f := Value.int) vf
      rw [← c3, ← ebeg] at evf
      refine Exists.intro (_, _) (And.intro evf ?_)
      obtain ⟨f1, f2⟩ := fnd_le (d := d) (h.1 3) pl (e - pl) c8.1
      conv => whnf
      refine And.intro (fun b3 => ?_) (fun b3 => ?_)
      · have b3 : v = -1 := b3
        have hnf : ¬ fnd d (h.1 3) pl (e - pl) < tdG d := fun q => by
          rw [if_pos q] at ev
          rw [ev] at b3
          exact nI_nm1 (by omega) b3
        conv => whnf
        refine And.intro (fun b4 => ?_) (fun b4 => ?_)
        · have b4 : (hPl H e).1 1 1 < 41 := b4
          have b4 : H.1 1 1 < 41 := b4
          rw [c3] at b4
          have hG : tdG d < 41 := (nI_lt41 (by omega)).mp b4
          have hb : ∀ k, k < e - pl → byR ((hPl H e).1 3 (pl + k)) := fun k hk => by
            show byR (H.1 3 (pl + k))
            rw [ef]
            exact (cd_ok (hbytes k hk)).2.2.2.2
          conv => whnf
          have evd := ia_callE (v_draftName (h := hPl H e) (G := tdG d) (pl := pl) (len := e - pl) (L := L) hG (by omega) hL (by omega) hb)
          rw [← c3, ← ebeg] at evd
          refine Exists.intro (_, _) (And.intro evd ?_)
          conv => whnf
          unfold nmT
          rw [hE, if_neg hz, if_neg h6, if_neg hnf, if_neg (by omega)]
          have eg1 : (hDn (hPl H e) (tdG d) pl (e - pl)).1 1 1 = nI (tdG d) := c3
          refine ⟨?_, ⟨fun y h1 h2 h3 => ?_, c1.2⟩, tpC_pl ⟨hL, hp, t3, t4⟩ e2, ?_, c4, c5, ⟨?_, fun g g1 g2 => ?_, c6.2.2⟩, fun j hj => ?_, ?_⟩
          · refine congrArg (fun v => some (Value.int v)) ?_
            show H.1 1 1 + 1 - 1 = _
            rw [c3]
            exact Int32.add_sub_cancel _ _
          · show (if y = 1 then _ else if y = 5 then _ else if y = 6 then _ else if y = 2 then _ else H.1 y) = _
            rw [if_neg h1, if_neg (by omega), if_neg (by omega), if_neg h2]
            exact c1.1 y h1 h2 h3
          · show H.1 1 1 + 1 = nI (tdG d + 1)
            rw [c3, nI_1]
          · show upd (H.1 6) (tdG d) (nI (e - pl)) 0 = 0
            have := c8.1
            rw [updn (by omega)]
            exact c6.1
          · have g2 : g < tdG d + 1 := g2
            show upd (H.1 6) (tdG d) (nI (e - pl)) g = nI (if g = tdG d then e - pl else tdL d g) ∧ ∀ k, k < (if g = tdG d then e - pl else tdL d g) → va_cpy (H.1 3) (H.1 5) pl (6 * tdG d) (e - pl) (6 * g + k) = nI (96 + if g = tdG d then cd (h.1 3) (pl + k) else tdC d g k)
            by_cases hg : g = tdG d
            · simp only [if_pos hg]
              rw [hg, updp]
              refine ⟨rfl, fun k hk => ?_⟩
              unfold va_cpy
              rw [if_pos (by omega), show pl + (6 * tdG d + k - 6 * tdG d) = pl + k by omega, ef]
              exact (cd_ok (hbytes k hk)).2.2.1
            · simp only [if_neg hg]
              rw [updn hg]
              obtain ⟨q1, q2⟩ := c6.2.1 g g1 (by omega)
              have o6 := (c8.2.2.2.1 g g1 (by omega)).2.1
              refine ⟨q1, fun k hk => ?_⟩
              unfold va_cpy
              rw [if_neg (by omega)]
              exact q2 k hk
          · show byR (va_cpy (H.1 3) (H.1 5) pl (6 * tdG d) (e - pl) j)
            unfold va_cpy
            by_cases q : 6 * tdG d ≤ j ∧ j < 6 * tdG d + (e - pl)
            · rw [if_pos q, ef]
              exact (cd_ok (hlet _ (by omega) (by omega))).2.2.2.2
            · rw [if_neg q]
              exact c7 j hj
          · exact nmAdd_ok c8 hG (by omega) (by omega) (fun k hk => ⟨(cd_ok (hbytes k hk)).1, (cd_ok (hbytes k hk)).2.1⟩)
        · have b4 : ¬ (hPl H e).1 1 1 < 41 := b4
          have b4 : ¬ H.1 1 1 < 41 := b4
          rw [c3] at b4
          have hG : tdG d = 41 := by
            have : ¬ tdG d < 41 := fun q => b4 ((nI_lt41 (by omega)).mpr q)
            omega
          conv => whnf
          have evx := ia_callE (v_fail (hPl H e) (pl := pl) (w := 3))
          rw [efl, ← ebeg] at evx
          refine Exists.intro (_, _) (And.intro evx ?_)
          conv => whnf
          unfold nmT
          rw [hE, if_neg hz, if_neg h6, if_neg hnf, if_pos hG]
          exact ⟨rfl, faux 3⟩
      · have b3 : ¬ v = -1 := b3
        have hnf : fnd d (h.1 3) pl (e - pl) < tdG d := Classical.byContradiction (fun q => by
          rw [if_neg q] at ev
          exact b3 ev)
        rw [if_pos hnf] at ev
        conv => whnf
        unfold nmT
        rw [hE, if_neg hz, if_neg h6, if_pos hnf, ev]
        exact ⟨rfl, hcE⟩
