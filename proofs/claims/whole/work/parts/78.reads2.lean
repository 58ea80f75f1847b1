/-! Reader of the class: the right side, statements, texts -/
theorem nm_ok {f : Nat → Int32} {L : Nat} {d : tdT} {pl : Nat} (hok : tdOk d) (hL : L ≤ 300) (hp : pl ≤ L) : tdX d (nmT f L d pl).2.2.1 ∧ tdOk (nmT f L d pl).2.2.1 ∧ tdN (nmT f L d pl).2.2.1 = tdN d ∧ pl ≤ (nmT f L d pl).2.2.2 ∧ (nmT f L d pl).2.2.2 ≤ L ∧ (nmT f L d pl).1 ≤ 8 * pl + 3 ∧ (((nmT f L d pl).1 = 0 ∧ ∃ g, (nmT f L d pl).2.1 = nI g ∧ 1 ≤ g ∧ g < tdG (nmT f L d pl).2.2.1) ∨ (¬ (nmT f L d pl).1 = 0 ∧ (nmT f L d pl).2.1 = -1)) := by
  obtain ⟨e1, e2⟩ := rn_le (isLt f L) hp
  obtain ⟨f1, f2⟩ := fnd_le (d := d) f pl (rn (isLt f L) L pl - pl) hok.1
  have oG := hok.2.1
  unfold nmT
  by_cases h1 : rn (isLt f L) L pl = pl
  · rw [if_pos h1]
    exact ⟨tdX_r d, hok, rfl, e1, e2, by omega, Or.inr ⟨by show ¬ 8 * pl + 1 = 0; omega, rfl⟩⟩
  · rw [if_neg h1]
    by_cases h2 : 6 < rn (isLt f L) L pl - pl
    · rw [if_pos h2]
      exact ⟨tdX_r d, hok, rfl, e1, e2, by omega, Or.inr ⟨by show ¬ 8 * pl + 2 = 0; omega, rfl⟩⟩
    · rw [if_neg h2]
      by_cases h3 : fnd d f pl (rn (isLt f L) L pl - pl) < tdG d
      · rw [if_pos h3]
        exact ⟨tdX_r d, hok, rfl, e1, e2, by omega, Or.inl ⟨rfl, _, rfl, f1, h3⟩⟩
      · rw [if_neg h3]
        by_cases h4 : tdG d = 41
        · rw [if_pos h4]
          exact ⟨tdX_r d, hok, rfl, e1, e2, by omega, Or.inr ⟨by show ¬ 8 * pl + 3 = 0; omega, rfl⟩⟩
        · rw [if_neg h4]
          refine ⟨nmAdd_X _ _ _ _, nmAdd_ok hok (by omega) (by omega) (by omega) (fun k hk => ?_), rfl, e1, e2, by omega, Or.inl ⟨rfl, tdG d, rfl, hok.1, Nat.lt_succ_self _⟩⟩
          have := cd_ok (rn_in (p := isLt f L) (L := L) (j := pl) (i := pl + k) (by omega) (by omega))
          exact ⟨this.1, this.2.1⟩
theorem nb_ok {f : Nat → Int32} {L : Nat} {p : Nat} (hp : p ≤ L) : (nbT f L p).2.2 ≤ L ∧ (nbT f L p).1 ≤ 8 * L + 2 ∧ 0 ≤ (nbT f L p).2.1.toInt ∧ (nbT f L p).2.1.toInt < 1000000000000000000 := by
  obtain ⟨b1, b2⟩ : p ≤ bl f L p ∧ bl f L p ≤ L := rn_le (isS f L 32) hp
  obtain ⟨e1, e2⟩ := rn_le (isDg f L) b2
  unfold nbT
  by_cases h1 : rn (isDg f L) L (bl f L p) = bl f L p
  · rw [if_pos h1]
    exact ⟨e2, by show 8 * bl f L p + 1 ≤ _; omega, show (0 : Int) ≤ (0 : Int64).toInt by decide, show (0 : Int64).toInt < 1000000000000000000 by decide⟩
  · rw [if_neg h1]
    by_cases h2 : 18 < rn (isDg f L) L (bl f L p) - bl f L p
    · rw [if_pos h2]
      exact ⟨e2, by show 8 * bl f L p + 2 ≤ _; omega, show (0 : Int) ≤ (0 : Int64).toInt by decide, show (0 : Int64).toInt < 1000000000000000000 by decide⟩
    · rw [if_neg h2]
      have := num_bd (f := f) (L := L) (b := bl f L p) (k := rn (isDg f L) L (bl f L p) - bl f L p) (by omega) (fun i hi => rn_in (p := isDg f L) (L := L) (j := bl f L p) (by omega) (by omega))
      exact ⟨e2, by show 0 ≤ _; omega, this.1, this.2⟩
theorem isS_lt {f : Nat → Int32} {L : Nat} {c : Int32} {j : Nat} (q : isS f L c j = true) : j < L := by
  unfold isS at q
  rw [Bool.and_eq_true, decide_eq_true_eq] at q
  exact q.1
theorem am_ok {f : Nat → Int32} {L : Nat} {b : Bool} {pl : Nat} (hp : pl ≤ L) : (amT f L b pl).2.2 ≤ L ∧ (amT f L b pl).1 ≤ 8 * L + 2 ∧ -1000000000000000000 ≤ (amT f L b pl).2.1.toInt ∧ (amT f L b pl).2.1.toInt ≤ 1000000000000000000 := by
  unfold amT
  by_cases h1 : isS f L 45 pl = true
  · rw [if_pos h1]
    obtain ⟨n1, n2, n3, n4⟩ := nb_ok (f := f) (L := L) (p := pl + 1) (isS_lt h1)
    refine ⟨n1, n2, ?_⟩
    show -1000000000000000000 ≤ (-(nbT f L (pl + 1)).2.1).toInt ∧ (-(nbT f L (pl + 1)).2.1).toInt ≤ 1000000000000000000
    rw [Int64.toInt_neg, Int.bmod_eq_of_le (by omega) (by omega)]
    omega
  · rw [if_neg h1]
    by_cases h2 : b = true
    · rw [if_pos h2]
      obtain ⟨n1, n2, n3, n4⟩ := nb_ok (f := f) (L := L) (p := pl) hp
      exact ⟨n1, n2, by omega, by omega⟩
    · rw [if_neg h2]
      by_cases h3 : isS f L 43 pl = true
      · rw [if_pos h3]
        obtain ⟨n1, n2, n3, n4⟩ := nb_ok (f := f) (L := L) (p := pl + 1) (isS_lt h3)
        exact ⟨n1, n2, by omega, by omega⟩
      · rw [if_neg h3]
        exact ⟨hp, by show 0 ≤ _; omega, show (-1000000000000000000 : Int) ≤ (0 : Int64).toInt by decide, show (0 : Int64).toInt ≤ 1000000000000000000 by decide⟩
theorem CR_st {h K : ia_H} {L pl : Nat} {d : tdT} {ft : Int32} (hc : CR h K L d pl ft) (hn : tdN d < 120) {a b : Nat} (ha : a < tdG d) (hb : b < tdG d) (hab : a ≠ b) {m : Int64} (hm : -1000000000000000000 ≤ m.toInt ∧ m.toInt ≤ 1000000000000000000) : CR h (hsI (hsI (hsL (hsI (hsI K 7 (upd (K.1 7) (tdN d) (nI a))) 8 (upd (K.1 8) (tdN d) (nI b))) 9 (vp_updL (K.2 9) (tdN d) m)) 10 (upd (K.1 10) (tdN d) 0)) 1 (upd (K.1 1) 2 (K.1 1 2 + 1))) L (stAdd d a b m) pl ft := by
  obtain ⟨c1, c2, c3, c4, c5, c6, c7, c8⟩ := hc
  refine ⟨⟨fun y h1 h2 h3 => ?_, fun y h1 => ?_⟩, c2, c3, ?_, c5, ⟨c6.1, c6.2.1, fun s hs => ?_⟩, c7, stAdd_ok c8 hn ha hb hab hm⟩
  · show (if y = 1 then _ else if y = 10 then _ else if y = 8 then _ else if y = 7 then _ else K.1 y) = _
    rw [if_neg h1, if_neg (by omega), if_neg (by omega), if_neg (by omega)]
    exact c1.1 y h1 h2 h3
  · show (if y = 9 then _ else K.2 y) = _
    rw [if_neg h1]
    exact c1.2 y h1
  · show K.1 1 2 + 1 = nI (tdN d + 1)
    rw [c4, nI_1]
  · have hs : s < tdN d + 1 := hs
    show upd (K.1 7) (tdN d) (nI a) s = nI (if s = tdN d then a else tdA d s) ∧ upd (K.1 8) (tdN d) (nI b) s = nI (if s = tdN d then b else tdB d s) ∧ vp_updL (K.2 9) (tdN d) m s = (if s = tdN d then m else tdM d s) ∧ upd (K.1 10) (tdN d) 0 s = oI (if s = tdN d then false else tdO d s)
    by_cases e : s = tdN d
    · rw [e, updp, updp, updp, if_pos rfl, if_pos rfl, if_pos rfl, if_pos rfl]
      exact ⟨rfl, rfl, if_pos rfl, rfl⟩
    · rw [updn e, updn e, updn e, if_neg e, if_neg e, if_neg e, if_neg e, show vp_updL (K.2 9) (tdN d) m s = K.2 9 s from if_neg e]
      exact c6.2.2 s (by omega)
theorem nI_z {n : Nat} (hn : n < 2 ^ 31) : nI n = 0 ↔ n = 0 := ⟨fun q => nI_inj (b := 0) hn (by decide) q, fun q => by rw [q]; rfl⟩
theorem l_rs {h K : ia_H} {L p6 : Nat} {d : tdT} {ft : Int32} (hb : ∀ i, i < L → byR (h.1 3 i)) (hc : CR h K L d p6 ft) (hn : tdN d < 120) {one : Nat} (ho : one < tdG d) {x : Int32} {b : Bool} (hx : b = decide (x = 0)) (hg : ft = 0 → ∃ g, x = nI g ∧ g < tdG d ∧ one ≠ g) (a4 : Option Value) (Z : Option Value → ia_H → Prop)
    (hZ0 : ∀ H' pl', ¬ ft = 0 → CR h H' L d pl' ft → Z none H') (hZ1 : ∀ H' pl', ft = 0 → ¬ (amT (h.1 3) L b p6).1 = 0 → CR h H' L d pl' (nI (amT (h.1 3) L b p6).1) → Z none H') (hZ2 : ∀ H' g, ft = 0 → (amT (h.1 3) L b p6).1 = 0 → x = nI g → g < tdG d → CR h H' L (stAdd d one g (amT (h.1 3) L b p6).2.1) (amT (h.1 3) L b p6).2.2 0 → Z none H') : R_ ia_k_X3_readRightSide Z (53, [some (.ref 1), some (.ref 4), some (.int (nI one)), some (.int x), a4, none], [], K) := by
  have hL := hc.2.1.1
  obtain ⟨m1, m2, m3, m4⟩ := am_ok (f := h.1 3) (b := b) hc.2.1.2.1
  obtain ⟨r1, K1, ev1, z1, z2⟩ := v_readAmount hb hc b
  subst z1
  have key : R_ ia_k_X3_readRightSide Z (63, [some (.ref 1), some (.ref 4), some (.int (nI one)), some (.int x), a4, none], [.int (oI b), .ref 1], K) := by
    refine ia_walk (fun _ => false) 60 (fun X hX => ?_)
    conv => whnf
    refine Exists.intro (_, _) (And.intro ev1 ?_)
    by_cases hft : ft = 0
    · by_cases ha : (amT (h.1 3) L b p6).1 = 0
      · rw [if_pos ha] at z2
        have e3 : K1.1 1 3 = 0 := by rw [← hft]; exact z2.2.2.2.2.1
        obtain ⟨g, g1, g2, g3⟩ := hg hft
        subst g1
        conv => whnf
        refine And.intro (fun q => ?_) (fun q => ?_)
        · have e12 : K1.1 1 2 = nI (tdN d) := z2.2.2.2.1
          conv => whnf
          have evd := ia_callE (v_draft4 K1 (tdN d) hn (nI one) (nI g) (amT (h.1 3) L b p6).2.1)
          rw [← e12] at evd
          refine Exists.intro (_, _) (And.intro evd ?_)
          conv => whnf
          have := CR_st z2 hn ho g2 g3 ⟨m3, m4⟩
          rw [hft] at this
          exact hZ2 _ g hft ha rfl g2 this
        · exact absurd e3 q
      · rw [if_neg ha] at z2
        have e3 : K1.1 1 3 = nI (amT (h.1 3) L b p6).1 := by
          rw [z2.2.2.2.2.1]
          unfold ftF
          rw [if_pos hft]
        conv => whnf
        refine And.intro (fun q => ?_) (fun q => ?_)
        · exact absurd ((nI_z (by omega)).mp (e3.symm.trans (show K1.1 1 3 = 0 from q))) ha
        · conv => whnf
          refine hZ1 _ (amT (h.1 3) L b p6).2.2 hft ha ?_
          have := z2
          unfold ftF at this
          rw [if_pos hft] at this
          exact this
    · have z3 : CR h K1 L d (amT (h.1 3) L b p6).2.2 ft := by
        by_cases ha : (amT (h.1 3) L b p6).1 = 0
        · rw [if_pos ha] at z2; exact z2
        · rw [if_neg ha] at z2
          unfold ftF at z2
          rw [if_neg hft] at z2
          exact z2
      have e3 : K1.1 1 3 = ft := z3.2.2.2.2.1
      conv => whnf
      refine And.intro (fun q => ?_) (fun q => ?_)
      · exact absurd (e3.symm.trans (show K1.1 1 3 = 0 from q)) hft
      · conv => whnf
        exact hZ0 _ _ hft z3
  refine ia_walk (fun pc => Nat.beq pc 63) 60 (fun X hX => ?_)
  conv => whnf
  refine And.intro (fun q => ?_) (fun q => ?_)
  · have q : x = 0 := q
    rw [hx, decide_eq_true q] at key
    conv => whnf
    exact hX _ (key)
  · have q : ¬ x = 0 := q
    rw [hx, decide_eq_false q] at key
    conv => whnf
    exact hX _ (key)
theorem toN (g : Nat) (hg : g < 2 ^ 31) : (nI g).toInt.toNat = g := by
  rw [nI_toInt hg]
  exact Int.toNat_natCast g
/-- what a reading leaves: what is told with its drafts, its fault, and where it stands if there is none -/
def RS (h : ia_H) (L : Nat) (res : Nat × tdT × Nat) (H : ia_H) : Prop := ∃ pl, pl ≤ L ∧ CR h H L res.2.1 pl (nI res.1) ∧ (res.1 = 0 → pl = res.2.2)
theorem v_rs {h H : ia_H} {L pl : Nat} {d : tdT} (hb : ∀ i, i < L → byR (h.1 3 i)) (hc : CR h H L d pl 0) (hn : tdN d < 120) {one : Nat} (h1 : 1 ≤ one) (ho : one < tdG d) : V_ 25 [.ref 1, .ref 4, .int (nI one)] H (fun r H' => r = none ∧ RS h L (rsT (h.1 3) L d one pl) H') := by
  have ef := CR_f hc
  have hL := hc.2.1.1
  have hok := hc.2.2.2.2.2.2.2
  have oG := hok.2.1
  obtain ⟨b1, b2⟩ : pl ≤ bl (h.1 3) L pl ∧ bl (h.1 3) L pl ≤ L := rn_le (isS (h.1 3) L 32) hc.2.1.2.1
  have vb := v_pB hc.2.1
  rw [ef] at vb
  have hc1 := CR_pl hc b2
  have vl := v_isLet hc1.2.1
  rw [CR_f hc1] at vl
  have vn := v_readName hc1
  obtain ⟨n1, n2, n3, n4, n5, n6, n7⟩ := nm_ok (f := h.1 3) hok hL b2
  have hbl : bl (h.1 3) L pl = bl (h.1 3) L pl := rfl
  have ersT : rsT (h.1 3) L d one pl = rsT (h.1 3) L d one pl := rfl
  conv at ersT => rhs; unfold rsT
  generalize hB : bl (h.1 3) L pl = p4 at *
  generalize hN : nmT (h.1 3) L d p4 = nm at *
  obtain ⟨r1, K1, evn, z1, z2⟩ := vn
  subst z1
  have oG2 := n2.2.1
  have vb2 := v_pB z2.2.1
  rw [CR_f z2] at vb2
  obtain ⟨d1, d2⟩ : nm.2.2.2 ≤ bl (h.1 3) L nm.2.2.2 ∧ bl (h.1 3) L nm.2.2.2 ≤ L := rn_le (isS (h.1 3) L 32) n5
  have z3 := CR_pl z2 d2
  generalize hP6 : bl (h.1 3) L nm.2.2.2 = p6 at *
  refine ia_V_in ia_k_X3_readRightSide [some (.ref 1), some (.ref 4), some (.int (nI one)), none, none, none] rfl rfl (Nat.le_of_ble_eq_true rfl) rfl ?_
  refine ia_walk (fun pc => Nat.beq pc 53) 90 (fun X hX => ?_)
  conv => whnf
  refine Exists.intro (_, _) (And.intro (ia_callE (vb)) ?_)
  conv => whnf
  obtain ⟨v, ev, ev'⟩ := ia_callN vl
  refine Exists.intro (_, _) (And.intro ev' ?_)
  clear ev'
  conv => whnf
  refine And.intro (fun q1 => ?_) (fun q1 => ?_)
  · have q : isLt (h.1 3) L p4 = false := oI_0.mp (ev.symm.trans q1)
    rw [if_neg (show ¬ isLt (h.1 3) L p4 = true by rw [q]; decide)] at ersT
    have lr := l_rs hb hc1 hn ho (x := 0) (b := true) (by decide) (fun _ => ⟨0, rfl, by omega, by omega⟩) none (fun r H' => r = none ∧ RS h L (rsT (h.1 3) L d one pl) H') (fun H' pl' z _ => absurd rfl z) (fun H' pl' _ z1 z2 => ?_) (fun H' g _ z1 z2 z0 z3 => ?_)
    · conv => whnf
      exact hX _ (lr)
    · rw [ersT, if_neg z1]
      exact ⟨rfl, pl', z2.2.1.2.1, z2, fun z => absurd z z1⟩
    · rw [ersT, if_pos z1]
      have hg0 : g = 0 := (nI_z (by omega)).mp z2.symm
      rw [hg0] at z3
      exact ⟨rfl, _, z3.2.1.2.1, z3, fun _ => rfl⟩
  · have q : isLt (h.1 3) L p4 = true := by
      cases hq : isLt (h.1 3) L p4
      · rw [hq] at ev; exact absurd ev q1
      · rfl
    rw [if_pos q] at ersT
    have hn2 : tdN nm.2.2.1 < 120 := by omega
    have ho2 : one < tdG nm.2.2.1 := Nat.lt_of_lt_of_le ho n1.1
    conv => whnf
    refine Exists.intro (_, _) (And.intro evn ?_)
    rcases n7 with ⟨m0, g, m1, m2, m3⟩ | ⟨m0, m1⟩
    · rw [if_pos m0] at ersT
      rw [m0] at z3
      have hx0 : (false : Bool) = decide (nm.2.1 = 0) := by
        rw [m1]
        exact (decide_eq_false (fun z => by have := (nI_z (by omega)).mp z; omega)).symm
      conv => whnf
      refine And.intro (fun w => ?_) (fun w => ?_)
      · have w : nm.2.1 = nI one := w
        rw [if_pos w] at ersT
        conv => whnf
        have evf := ia_callE (v_fail K1 (pl := p4) (w := 4))
        have e13 : K1.1 1 3 = 0 := by rw [z2.2.2.2.2.1, m0]; rfl
        have eft : ftF (K1.1 1 3) (8 * p4 + 4) = nI (8 * p4 + 4) := by unfold ftF; rw [if_pos e13]
        rw [eft] at evf
        refine Exists.intro (_, _) (And.intro evf ?_)
        have z4 := CR_ft z2 (nI (8 * p4 + 4))
        have vb3 := v_pB z4.2.1
        rw [CR_f z4, hP6] at vb3
        conv => whnf
        refine Exists.intro (_, _) (And.intro (ia_callE (vb3)) ?_)
        have hne : ¬ nI (8 * p4 + 4) = 0 := fun z => by have := (nI_z (by omega)).mp z; omega
        have lr := l_rs hb (CR_pl z4 d2) hn2 ho2 (x := nm.2.1) (b := false) hx0 (fun z => absurd z hne) (some (.int (nI p4))) (fun r H' => r = none ∧ RS h L (rsT (h.1 3) L d one pl) H') (fun H' pl' z z5 => ?_) (fun H' pl' z _ _ => absurd z hne) (fun H' g z _ _ _ _ => absurd z hne)
        · conv => whnf
          exact hX _ (lr)
        · rw [ersT]
          exact ⟨rfl, pl', z5.2.1.2.1, z5, fun z => by have z : 8 * p4 + 4 = 0 := z; omega⟩
      · have w : ¬ nm.2.1 = nI one := w
        rw [if_neg w] at ersT
        conv => whnf
        refine Exists.intro (_, _) (And.intro (ia_callE (vb2)) ?_)
        have lr := l_rs hb z3 hn2 ho2 (x := nm.2.1) (b := false) hx0 (fun _ => ⟨g, m1, m3, fun z => w (by rw [m1, z])⟩) (some (.int (nI p4))) (fun r H' => r = none ∧ RS h L (rsT (h.1 3) L d one pl) H') (fun H' pl' z _ => absurd rfl z) (fun H' pl' _ y1 y2 => ?_) (fun H' g2 _ y1 y2 y0 y3 => ?_)
        · conv => whnf
          exact hX _ (lr)
        · rw [ersT, if_neg y1]
          exact ⟨rfl, pl', y2.2.1.2.1, y2, fun z => absurd z y1⟩
        · rw [ersT, if_pos y1]
          rw [y2, toN g2 (by omega)]
          exact ⟨rfl, _, y3.2.1.2.1, y3, fun _ => rfl⟩
    · rw [if_neg m0] at ersT
      have hft : ¬ nI nm.1 = 0 := fun z => m0 ((nI_z (by omega)).mp z)
      conv => whnf
      refine And.intro (fun w => ?_) (fun w => ?_)
      · have w : nm.2.1 = nI one := w
        rw [m1] at w
        exact absurd w.symm (nI_nm1 (by omega))
      · conv => whnf
        refine Exists.intro (_, _) (And.intro (ia_callE (vb2)) ?_)
        have lr := l_rs hb z3 hn2 ho2 (x := nm.2.1) (b := false) (by rw [m1]; decide) (fun z => absurd z hft) (some (.int (nI p4))) (fun r H' => r = none ∧ RS h L (rsT (h.1 3) L d one pl) H') (fun H' pl' z z5 => ?_) (fun H' pl' z _ _ => absurd z hft) (fun H' g z _ _ _ _ => absurd z hft)
        · conv => whnf
          exact hX _ (lr)
        · rw [ersT]
          exact ⟨rfl, pl', z5.2.1.2.1, z5, fun z => absurd z m0⟩
