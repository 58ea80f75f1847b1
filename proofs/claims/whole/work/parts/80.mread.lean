/-! the reference reads: bytes, blanks, letters -/
theorem rng255d : ∀ i, i < 256 → (decide (97 ≤ bys i) && decide (bys i ≤ 122)) = (decide (97 ≤ bys i &&& 255) && decide (bys i &&& 255 ≤ 122)) ∧ (decide (48 ≤ bys i) && decide (bys i ≤ 57)) = (decide (48 ≤ bys i &&& 255) && decide (bys i &&& 255 ≤ 57)) := by decide +kernel
theorem rng255 {x : Int32} (hx : byR x) : (decide (97 ≤ x) && decide (x ≤ 122)) = (decide (97 ≤ x &&& 255) && decide (x &&& 255 ≤ 122)) ∧ (decide (48 ≤ x) && decide (x ≤ 57)) = (decide (48 ≤ x &&& 255) && decide (x &&& 255 ≤ 57)) := by
  obtain ⟨i, hi, e⟩ := bys_ok hx
  subst e
  exact rng255d i hi
def frY (h H : ia_H) : Prop := (∀ y, y ≠ 52 → y ≠ 54 → y ≠ 55 → y ≠ 56 → y ≠ 57 → y ≠ 59 → H.1 y = h.1 y) ∧ (∀ y, y ≠ 52 → y ≠ 58 → H.2 y = h.2 y) ∧ ∀ j, j ≠ 2 → j ≠ 3 → j ≠ 6 → j ≠ 8 → j ≠ 15 → H.1 52 j = h.1 52 j
/-- the reference's tape, bytes f -/
def tpM (h : ia_H) (f : Nat → Int32) (L pl : Nat) : Prop := L ≤ 300 ∧ pl ≤ L ∧ h.1 52 1 = nI L ∧ h.1 52 2 = nI pl ∧ ∀ j, j < L → h.1 53 j = f j ∧ byR (f j)
def hAt (h : ia_H) (q : Nat) : ia_H := hsI h 52 (upd (h.1 52) 2 (nI q))
theorem hAt_2 (h : ia_H) (a b : Nat) : hAt (hAt h a) b = hAt h b := by
  unfold hAt
  rw [hsI_same]
  show hsI h 52 (upd (upd (h.1 52) 2 (nI a)) 2 (nI b)) = _
  rw [upd_upd]
theorem hAt_e {h : ia_H} {pl : Nat} (e : h.1 52 2 = nI pl) : hAt h pl = h := by
  unfold hAt
  have : upd (h.1 52) 2 (nI pl) = h.1 52 := by
    funext j
    simp only [upd]
    by_cases z : j = 2
    · rw [if_pos z, z, e]
    · rw [if_neg z]
  rw [this, hsI_eta]
theorem hAt_u (h : ia_H) (pl : Nat) : hsI (hAt h pl) 52 (upd ((hAt h pl).1 52) 2 ((hAt h pl).1 52 2 + 1)) = hAt h (pl + 1) := by
  rw [← hAt_2 h pl (pl + 1)]
  unfold hAt
  rw [← nI_1]
  rfl
theorem at_u {h : ia_H} {pl : Nat} (e : h.1 52 2 = nI pl) : hsI h 52 (upd (h.1 52) 2 (h.1 52 2 + 1)) = hAt h (pl + 1) := by
  unfold hAt
  rw [e, nI_1]
theorem tpM_at {h : ia_H} {f : Nat → Int32} {L pl : Nat} (ht : tpM h f L pl) {q : Nat} (hq : q ≤ L) : tpM (hAt h q) f L q := ⟨ht.1, hq, ht.2.2.1, rfl, ht.2.2.2.2⟩
theorem m_byteAt {h : ia_H} {f : Nat → Int32} {L pl : Nat} (ht : tpM h f L pl) (k : Nat) (hk : k ≤ L) : V_ 101 [.ref 52, .int (nI k)] h (Z_ (.int (hrV f L k)) h) := by
  obtain ⟨t1, t2, t3, t4, t5⟩ := ht
  refine ia_V_in ia_k_X8_byteAt [some (.ref 52), some (.int (nI k))] rfl rfl (Nat.le_of_ble_eq_true rfl) rfl ?_
  refine ia_walk (fun _ => false) 60 (fun X hX => ?_)
  conv => whnf
  refine And.intro (fun c => ?_) (fun c => ?_)
  · have c : nI k < h.1 52 1 := c
    rw [t3] at c
    have hc := (nI_lt_iff (by omega) (by omega)).mp c
    conv => whnf
    refine Exists.intro _ (And.intro (And.intro rfl (by omega)) ?_)
    conv => whnf
    exact ⟨by unfold hrV; rw [if_pos hc, ← (t5 k hc).1], rfl⟩
  · have c : ¬ nI k < h.1 52 1 := c
    rw [t3] at c
    have hc : ¬ k < L := fun q => c (nI_lt q (by omega))
    conv => whnf
    exact ⟨by unfold hrV; rw [if_neg hc], rfl⟩
theorem m_byteAtE {h : ia_H} {f : Nat → Int32} {L pl : Nat} (ht : tpM h f L pl) : V_ 101 [.ref 52, .int (h.1 52 2)] h (Z_ (.int (hrV f L pl)) h) := by
  rw [ht.2.2.2.1]
  exact m_byteAt ht pl ht.2.1
theorem l_next {h : ia_H} {f : Nat → Int32} {L : Nat} {Z : Option Value → ia_H → Prop} : ∀ (k pl : Nat), pl + k = L → tpM (hAt h pl) f L pl → Z (some (.int (hrV f L (bl f L pl)))) (hAt h (bl f L pl)) → R_ ia_k_X8_next Z (0, [some (.ref 52)], [], hAt h pl) := by
  intro k
  induction k with
  | zero =>
    intro pl hk ht hZ
    have hb : ∀ i, i < L → byR (f i) := fun i hi => (ht.2.2.2.2 i hi).2
    rw [show bl f L pl = pl from rn_f (isS_o _ _ _ pl (by omega))] at hZ
    refine ia_walk (fun pc => Nat.beq pc 99) 60 (fun X hX => ?_)
    conv => whnf
    obtain ⟨v, ev, ev'⟩ := ia_callN (m_byteAtE ht)
    refine Exists.intro (_, _) (And.intro ev' ?_)
    clear ev'
    conv => whnf
    refine And.intro (fun c => ?_) (fun c => ?_)
    · have c : v = 32 := c
      have := (hr_s hb (c := 32) (j := pl) (by decide)).mp (ev.symm.trans c)
      rw [isS_o _ _ _ pl (by omega)] at this
      cases this
    · conv => whnf
      refine Exists.intro (_, _) (And.intro (ia_callE (m_byteAtE ht)) ?_)
      conv => whnf
      exact hZ
  | succ k ih =>
    intro pl hk ht hZ
    have hb : ∀ i, i < L → byR (f i) := fun i hi => (ht.2.2.2.2 i hi).2
    refine ia_walk (fun pc => Nat.beq pc 0) 60 (fun X hX => ?_)
    conv => whnf
    obtain ⟨v, ev, ev'⟩ := ia_callN (f := Value.int) (m_byteAtE ht)
    refine Exists.intro (_, _) (And.intro ev' ?_)
    clear ev'
    conv => whnf
    refine And.intro (fun c => ?_) (fun c => ?_)
    · have c : v = 32 := c
      have q : isS f L 32 pl = true := (hr_s hb (c := 32) (j := pl) (by decide)).mp (ev.symm.trans c)
      rw [show bl f L pl = bl f L (pl + 1) from rn_t (by omega) q] at hZ
      have nx := ih (pl + 1) (by omega) ⟨ht.1, by omega, ht.2.2.1, rfl, ht.2.2.2.2⟩ hZ
      rw [← hAt_u] at nx
      conv => whnf
      exact hX _ (nx)
    · have c : ¬ v = 32 := c
      have q : isS f L 32 pl = false := by
        cases hq : isS f L 32 pl
        · rfl
        · exact absurd (ev.trans ((hr_s hb (c := 32) (j := pl) (by decide)).mpr hq)) c
      rw [show bl f L pl = pl from rn_f q] at hZ
      conv => whnf
      refine Exists.intro (_, _) (And.intro (ia_callE (m_byteAtE ht)) ?_)
      conv => whnf
      exact hZ
theorem m_next {h : ia_H} {f : Nat → Int32} {L pl : Nat} (ht : tpM h f L pl) : V_ 102 [.ref 52] h (fun r h' => r = some (.int (hrV f L (bl f L pl))) ∧ h' = hAt h (bl f L pl)) := by
  have hl := l_next (h := h) (f := f) (L := L) (Z := fun r h' => r = some (.int (hrV f L (bl f L pl))) ∧ h' = hAt h (bl f L pl)) (L - pl) pl (by have := ht.2.1; omega) (tpM_at ht ht.2.1) ⟨rfl, rfl⟩
  rw [hAt_e ht.2.2.2.1] at hl
  exact ia_V_in ia_k_X8_next [some (.ref 52)] rfl rfl (Nat.le_of_ble_eq_true rfl) rfl hl
theorem m_isLetter {h : ia_H} {f : Nat → Int32} {L : Nat} (hb : ∀ i, i < L → byR (f i)) (j : Nat) : V_ 103 [.int (hrV f L j)] h (Z_ (.int (oI (isLt f L j))) h) := by
  have key : isLt f L j = (decide (97 ≤ hrV f L j) && decide (hrV f L j ≤ 122)) := by
    unfold isLt hrV
    by_cases q : j < L
    · rw [if_pos q, decide_eq_true q, Bool.true_and]
      exact (rng255 (hb j q)).1
    · rw [if_neg q, decide_eq_false q, Bool.false_and]
      rfl
  rw [key]
  generalize hrV f L j = x
  refine ia_V_in ia_k_X8_isLetter [some (.int x)] rfl rfl (Nat.le_of_ble_eq_true rfl) rfl ?_
  refine ia_walk (fun _ => false) 60 (fun X hX => ?_)
  conv => whnf
  refine And.intro (fun c => ?_) (fun c => ?_)
  · have c : x < 97 := c
    conv => whnf
    exact ⟨Or.inl rfl, by rw [decide_eq_false (Int32.not_le.mpr c)]; rfl, rfl⟩
  · have c : ¬ x < 97 := c
    conv => whnf
    refine And.intro (fun c2 => ?_) (fun c2 => ?_)
    · have c2 : 122 < x := c2
      conv => whnf
      exact ⟨Or.inl rfl, by rw [decide_eq_false (show ¬ x ≤ 122 from Int32.not_le.mpr c2), Bool.and_false]; rfl, rfl⟩
    · have c2 : ¬ 122 < x := c2
      conv => whnf
      exact ⟨Or.inr rfl, by rw [decide_eq_true (Int32.not_lt.mp c), decide_eq_true (Int32.not_lt.mp c2)]; rfl, rfl⟩
theorem m_isDigit {h : ia_H} {f : Nat → Int32} {L : Nat} (hb : ∀ i, i < L → byR (f i)) (j : Nat) : V_ 104 [.int (hrV f L j)] h (Z_ (.int (oI (isDg f L j))) h) := by
  have key : isDg f L j = (decide (48 ≤ hrV f L j) && decide (hrV f L j ≤ 57)) := by
    unfold isDg hrV
    by_cases q : j < L
    · rw [if_pos q, decide_eq_true q, Bool.true_and]
      exact (rng255 (hb j q)).2
    · rw [if_neg q, decide_eq_false q, Bool.false_and]
      rfl
  rw [key]
  generalize hrV f L j = x
  refine ia_V_in ia_k_X8_isDigit [some (.int x)] rfl rfl (Nat.le_of_ble_eq_true rfl) rfl ?_
  refine ia_walk (fun _ => false) 60 (fun X hX => ?_)
  conv => whnf
  refine And.intro (fun c => ?_) (fun c => ?_)
  · have c : x < 48 := c
    conv => whnf
    exact ⟨Or.inl rfl, by rw [decide_eq_false (Int32.not_le.mpr c)]; rfl, rfl⟩
  · have c : ¬ x < 48 := c
    conv => whnf
    refine And.intro (fun c2 => ?_) (fun c2 => ?_)
    · have c2 : 57 < x := c2
      conv => whnf
      exact ⟨Or.inl rfl, by rw [decide_eq_false (show ¬ x ≤ 57 from Int32.not_le.mpr c2), Bool.and_false]; rfl, rfl⟩
    · have c2 : ¬ 57 < x := c2
      conv => whnf
      exact ⟨Or.inr rfl, by rw [decide_eq_true (Int32.not_lt.mp c), decide_eq_true (Int32.not_lt.mp c2)]; rfl, rfl⟩
/-- the reference is reading -/
def MR (h H : ia_H) (f : Nat → Int32) (L : Nat) (d : tdT) (pl : Nat) : Prop := frY h H ∧ tpM H f L pl ∧ H.1 52 6 = nI (tdG d) ∧ H.1 52 15 = nI (tdN d) ∧ mDat H d ∧ tdOk d
theorem MR_at {h H : ia_H} {f : Nat → Int32} {L pl : Nat} {d : tdT} (hm : MR h H f L d pl) {q : Nat} (hq : q ≤ L) : MR h (hAt H q) f L d q := by
  obtain ⟨⟨m1, m2, m3⟩, m4, m5, m6, m7, m8⟩ := hm
  refine ⟨⟨fun y h1 h2 h3 h4 h5 h6 => ?_, m2, fun j h1 h2 h3 h4 h5 => ?_⟩, tpM_at m4 hq, m5, m6, m7, m8⟩
  · show (if y = 52 then _ else H.1 y) = _
    rw [if_neg h1]
    exact m1 y h1 h2 h3 h4 h5 h6
  · show upd (H.1 52) 2 _ j = _
    rw [updn h1]
    exact m3 j h1 h2 h3 h4 h5
def hWr (h : ia_H) (v : Int32) : ia_H := hsI h 52 (upd (h.1 52) 3 v)
theorem MR_wr {h H : ia_H} {f : Nat → Int32} {L pl : Nat} {d : tdT} (hm : MR h H f L d pl) (v : Int32) : MR h (hWr H v) f L d pl := by
  obtain ⟨⟨m1, m2, m3⟩, m4, m5, m6, m7, m8⟩ := hm
  refine ⟨⟨fun y h1 h2 h3 h4 h5 h6 => ?_, m2, fun j h1 h2 h3 h4 h5 => ?_⟩, m4, m5, m6, m7, m8⟩
  · show (if y = 52 then _ else H.1 y) = _
    rw [if_neg h1]
    exact m1 y h1 h2 h3 h4 h5 h6
  · show upd (H.1 52) 3 _ j = _
    rw [updn h2]
    exact m3 j h1 h2 h3 h4 h5
theorem m_fails (h : ia_H) {pl w : Nat} : V_ 100 [.ref 52, .int (nI w), .int (nI pl)] h (fun r h' => r = some (.int 0) ∧ h' = hWr h (nI (8 * pl + w))) := by
  have e : (8 : Int32) * nI pl + nI w = nI (8 * pl + w) := ix2 (pk_mul 8 pl)
  refine ia_V_in ia_k_X8_fails [some (.ref 52), some (.int (nI w)), some (.int (nI pl))] rfl rfl (Nat.le_of_ble_eq_true rfl) rfl ?_
  refine ia_walk (fun _ => false) 60 (fun X hX => ?_)
  conv => whnf
  refine ⟨Or.inl rfl, rfl, ?_⟩
  rw [← e]
  rfl
theorem m_takes {h H : ia_H} {f : Nat → Int32} {L pl : Nat} {d : tdT} (hm : MR h H f L d pl) {c : Nat} (hc : c < 128) : V_ 105 [.ref 52, .int (nI c)] H (fun r H' => (isS f L (nI c) (bl f L pl) = true ∧ r = some (.int 1) ∧ MR h H' f L d (bl f L pl + 1)) ∨ (¬ isS f L (nI c) (bl f L pl) = true ∧ r = some (.int 0) ∧ MR h H' f L d (bl f L pl))) := by
  have hb : ∀ i, i < L → byR (f i) := fun i hi => (hm.2.1.2.2.2.2 i hi).2
  obtain ⟨b1, b2⟩ : pl ≤ bl f L pl ∧ bl f L pl ≤ L := rn_le (isS f L 32) hm.2.1.2.1
  have vn := m_next hm.2.1
  have hs := hr_s hb (j := bl f L pl) hc
  have hm1 := MR_at hm b2
  generalize hB : bl f L pl = p4 at *
  generalize hV : hrV f L p4 = v at *
  refine ia_V_in ia_k_X8_takes [some (.ref 52), some (.int (nI c))] rfl rfl (Nat.le_of_ble_eq_true rfl) rfl ?_
  refine ia_walk (fun _ => false) 60 (fun X hX => ?_)
  conv => whnf
  refine Exists.intro (_, _) (And.intro (ia_callE (vn)) ?_)
  conv => whnf
  refine And.intro (fun q => ?_) (fun q => ?_)
  · have q : v = nI c := q
    have q2 := hs.mp q
    have := MR_at hm1 (q := p4 + 1) (isS_lt q2)
    rw [← at_u (show (hAt H p4).1 52 2 = nI p4 from rfl)] at this
    conv => whnf
    exact ⟨Or.inr rfl, Or.inl ⟨q2, rfl, this⟩⟩
  · have q : ¬ v = nI c := q
    conv => whnf
    exact ⟨Or.inl rfl, Or.inr ⟨fun z => q (hs.mpr z), rfl, hm1⟩⟩
/-- the letters that are laid by -/
def lyOk (h : ia_H) (f : Nat → Int32) (p0 n : Nat) : Prop := ∀ k, k < n → k < 6 → h.1 55 (1 + k) = nI (cd f (p0 + k))
theorem lv97 {f : Nat → Int32} {L j : Nat} (h : isLt f L j = true) : hrV f L j - 97 + 1 = nI (cd f j) := by
  obtain ⟨c1, c2, c3, c4, c5⟩ := cd_ok h
  unfold hrV
  rw [if_pos c4, (and255 c5 (c := 96 + cd f j) (by omega)).mpr c3]
  have e : nI (96 + cd f j) = nI (cd f j - 1) + nI 97 := by rw [nI_add]; congr 1; omega
  rw [e]
  have : nI (cd f j - 1) + nI 97 - 97 = nI (cd f j - 1) := Int32.add_sub_cancel _ _
  rw [this, nI_1, show cd f j - 1 + 1 = cd f j by omega]
theorem l_rl {h : ia_H} {f : Nat → Int32} {L p0 : Nat} {d : tdT} {Z : Option Value → ia_H → Prop} : ∀ (k pl : Nat) (H : ia_H), pl + k = L → p0 ≤ pl → MR h H f L d pl → lyOk H f p0 (pl - p0) → (∀ H', MR h H' f L d (rn (isLt f L) L pl) → lyOk H' f p0 (rn (isLt f L) L pl - p0) → H'.1 55 0 = nI (rn (isLt f L) L pl - p0) → Z (some (.int (if 6 < rn (isLt f L) L pl - p0 then -1 else nI (rn (isLt f L) L pl - p0)))) H') → R_ ia_k_X8_readsLetters Z (2, [some (.ref 52), some (.int (nI (pl - p0)))], [], H) := by
  have hend : ∀ (pl : Nat) (H : ia_H), p0 ≤ pl → MR h H f L d pl → lyOk H f p0 (pl - p0) → (∀ H', MR h H' f L d pl → lyOk H' f p0 (pl - p0) → H'.1 55 0 = nI (pl - p0) → Z (some (.int (if 6 < pl - p0 then -1 else nI (pl - p0)))) H') → R_ ia_k_X8_readsLetters Z (59, [some (.ref 52), some (.int (nI (pl - p0)))], [], H) := by
    intro pl H h0 hm hly hZ
    have hple := hm.2.1.2.1
    have hL := hm.2.1.1
    have hZ2 := hZ (hsI H 55 (upd (H.1 55) 0 (nI (pl - p0)))) (by
      obtain ⟨⟨m1, m2, m3⟩, m4, m5, m6, m7, m8⟩ := hm
      refine ⟨⟨fun y h1 h2 h3 h4 h5 h6 => ?_, m2, m3⟩, m4, m5, m6, m7, m8⟩
      show (if y = 55 then _ else H.1 y) = _
      rw [if_neg h3]
      exact m1 y h1 h2 h3 h4 h5 h6) (fun k h1 h2 => by
      show upd (H.1 55) 0 _ (1 + k) = _
      rw [updn (by omega)]
      exact hly k h1 h2) rfl
    refine ia_walk (fun _ => false) 60 (fun X hX => ?_)
    conv => whnf
    refine Exists.intro 0 (And.intro (And.intro rfl (by decide)) ?_)
    conv => whnf
    refine And.intro (fun c => ?_) (fun c => ?_)
    · have c : (6 : Int32) < nI (pl - p0) := c
      rw [if_pos ((nI_lt_iff (a := 6) (by omega) (by omega)).mp c)] at hZ2
      conv => whnf
      exact hZ2
    · have c : ¬ (6 : Int32) < nI (pl - p0) := c
      rw [if_neg (fun z => c (nI_lt (a := 6) z (by omega)))] at hZ2
      conv => whnf
      exact hZ2
  intro k
  induction k with
  | zero =>
    intro pl H hk h0 hm hly hZ
    have hb : ∀ i, i < L → byR (f i) := fun i hi => (hm.2.1.2.2.2.2 i hi).2
    have q := isLt_o f L pl (by omega)
    rw [rn_f q] at hZ
    refine ia_walk (fun pc => Nat.beq pc 59) 60 (fun X hX => ?_)
    conv => whnf
    refine Exists.intro (_, _) (And.intro (ia_callE (m_byteAtE hm.2.1)) ?_)
    conv => whnf
    obtain ⟨v, ev, ev'⟩ := ia_callN (m_isLetter (h := H) hb pl)
    refine Exists.intro (_, _) (And.intro ev' ?_)
    clear ev'
    conv => whnf
    refine And.intro (fun c => ?_) (fun c => ?_)
    · conv => whnf
      exact hX _ (hend pl H h0 hm hly hZ)
    · rw [q] at ev
      exact absurd ev c
  | succ k ih =>
    intro pl H hk h0 hm hly hZ
    have hL := hm.2.1.1
    have e2 := hm.2.1.2.2.2.1
    have hb : ∀ i, i < L → byR (f i) := fun i hi => (hm.2.1.2.2.2.2 i hi).2
    refine ia_walk (fun pc => Nat.beq pc 2 || Nat.beq pc 43 || Nat.beq pc 59) 60 (fun X hX => ?_)
    conv => whnf
    refine Exists.intro (_, _) (And.intro (ia_callE (m_byteAtE hm.2.1)) ?_)
    conv => whnf
    obtain ⟨v, ev, ev'⟩ := ia_callN (m_isLetter (h := H) hb pl)
    refine Exists.intro (_, _) (And.intro ev' ?_)
    clear ev'
    conv => whnf
    refine And.intro (fun c => ?_) (fun c => ?_)
    · have q : isLt f L pl = false := oI_0.mp (ev.symm.trans c)
      rw [rn_f q] at hZ
      conv => whnf
      exact hX _ (hend pl H h0 hm hly hZ)
    · have q : isLt f L pl = true := by
        cases hq : isLt f L pl
        · rw [hq] at ev; exact absurd ev c
        · rfl
      rw [rn_t (by omega) q] at hZ
      have step : ∀ K : ia_H, MR h K f L d pl → lyOk K f p0 (pl + 1 - p0) → R_ ia_k_X8_readsLetters Z (43, [some (.ref 52), some (.int (nI (pl - p0)))], [], K) := by
        intro K hK hlK
        have nx := ih (pl + 1) (hAt K (pl + 1)) (by omega) (by omega) (MR_at hK (by omega)) hlK hZ
        rw [← at_u hK.2.1.2.2.2.1, show pl + 1 - p0 = pl - p0 + 1 by omega, ← nI_1] at nx
        refine ia_walk (fun pc => Nat.beq pc 2) 60 (fun X hX => ?_)
        conv => whnf
        exact hX _ (nx)
      conv => whnf
      refine And.intro (fun c2 => ?_) (fun c2 => ?_)
      · have c2 : nI (pl - p0) < 6 := c2
        have hlt : pl - p0 < 6 := (nI_ltI (b := 6) (by omega) (by decide)).mp c2
        have i1 : (1 : Int32) + nI (pl - p0) = nI (1 + (pl - p0)) := nI_add 1 (pl - p0)
        conv => whnf
        refine Exists.intro (_, _) (And.intro (ia_callE (m_byteAtE hm.2.1)) ?_)
        conv => whnf
        refine Exists.intro (1 + (pl - p0)) (And.intro (And.intro (i1) (by omega)) ?_)
        conv => whnf
        refine hX _ (step _ ?_ ?_)
        · obtain ⟨⟨m1, m2, m3⟩, m4, m5, m6, m7, m8⟩ := hm
          refine ⟨⟨fun y h1 h2 h3 h4 h5 h6 => ?_, m2, m3⟩, m4, m5, m6, m7, m8⟩
          show (if y = 55 then _ else H.1 y) = _
          rw [if_neg h3]
          exact m1 y h1 h2 h3 h4 h5 h6
        · intro k h1 h2
          show upd (H.1 55) (1 + (pl - p0)) (hrV f L pl - 97 + 1) (1 + k) = _
          by_cases e : k = pl - p0
          · rw [e, updp, lv97 q, show p0 + (pl - p0) = pl by omega]
          · rw [updn (by omega)]
            exact hly k (by omega) h2
      · have c2 : ¬ nI (pl - p0) < 6 := c2
        have hlt : ¬ pl - p0 < 6 := fun z => c2 (nI_lt (b := 6) z (by omega))
        conv => whnf
        exact hX _ (step H hm (fun k h1 h2 => hly k (by omega) h2))
theorem m_readsLetters {h H : ia_H} {f : Nat → Int32} {L pl : Nat} {d : tdT} (hm : MR h H f L d pl) : V_ 106 [.ref 52] H (fun r H' => r = some (.int (if 6 < rn (isLt f L) L pl - pl then -1 else nI (rn (isLt f L) L pl - pl))) ∧ MR h H' f L d (rn (isLt f L) L pl) ∧ lyOk H' f pl (rn (isLt f L) L pl - pl) ∧ H'.1 55 0 = nI (rn (isLt f L) L pl - pl)) := by
  have hl := l_rl (h := h) (f := f) (L := L) (p0 := pl) (d := d) (Z := fun r H' => r = some (.int (if 6 < rn (isLt f L) L pl - pl then -1 else nI (rn (isLt f L) L pl - pl))) ∧ MR h H' f L d (rn (isLt f L) L pl) ∧ lyOk H' f pl (rn (isLt f L) L pl - pl) ∧ H'.1 55 0 = nI (rn (isLt f L) L pl - pl)) (L - pl) pl H (by have := hm.2.1.2.1; omega) (Nat.le_refl _) hm (fun k h1 _ => by omega) (fun H' q1 q2 q3 => ⟨rfl, q1, q2, q3⟩)
  rw [Nat.sub_self] at hl
  refine ia_V_in ia_k_X8_readsLetters [some (.ref 52), none] rfl rfl (Nat.le_of_ble_eq_true rfl) rfl ?_
  refine ia_walk (fun pc => Nat.beq pc 2) 60 (fun X hX => ?_)
  conv => whnf
  exact hX _ (hl)
