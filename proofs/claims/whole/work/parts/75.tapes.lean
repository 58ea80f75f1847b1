/-! Tape of the class -/
def hPl (h : ia_H) (pl : Nat) : ia_H := hsI h 2 (upd (h.1 2) 2 (nI pl))
theorem hPl_2 (h : ia_H) (a b : Nat) : hPl (hPl h a) b = hPl h b := by
  unfold hPl
  rw [hsI_same]
  show hsI h 2 (upd (upd (h.1 2) 2 (nI a)) 2 (nI b)) = _
  rw [upd_upd]
theorem hPl_e {h : ia_H} {pl : Nat} (e : h.1 2 2 = nI pl) : hPl h pl = h := by
  unfold hPl
  have : upd (h.1 2) 2 (nI pl) = h.1 2 := by
    funext j
    simp only [upd]
    by_cases z : j = 2
    · rw [if_pos z, z, e]
    · rw [if_neg z]
  rw [this, hsI_eta]
def tpC (h : ia_H) (L pl : Nat) : Prop := L ≤ 300 ∧ pl ≤ L ∧ h.1 2 1 = nI L ∧ h.1 2 2 = nI pl
theorem tpC_pl {h : ia_H} {L pl : Nat} (ht : tpC h L pl) {q : Nat} (hq : q ≤ L) : tpC (hPl h q) L q := ⟨ht.1, hq, ht.2.2.1, rfl⟩
def hrV (f : Nat → Int32) (L j : Nat) : Int32 := if j < L then f j &&& 255 else -1
theorem v_here {h : ia_H} {L pl : Nat} (ht : tpC h L pl) : V_ 30 [.ref 2] h (Z_ (.int (hrV (h.1 3) L pl)) h) := by
  obtain ⟨t1, t2, t3, t4⟩ := ht
  refine ia_V_in ia_k_X4_here [some (.ref 2)] rfl rfl (Nat.le_of_ble_eq_true rfl) rfl ?_
  refine ia_walk (fun _ => false) 60 (fun X hX => ?_)
  conv => whnf
  refine And.intro (fun c => ?_) (fun c => ?_)
  · have c : h.1 2 2 < h.1 2 1 := c
    rw [t3, t4] at c
    have hc := (nI_lt_iff (by omega) (by omega)).mp c
    conv => whnf
    refine Exists.intro (pl) (And.intro (And.intro (t4) (by omega)) ?_)
    conv => whnf
    exact ⟨by unfold hrV; rw [if_pos hc], rfl⟩
  · have c : ¬ h.1 2 2 < h.1 2 1 := c
    rw [t3, t4] at c
    have hc : ¬ pl < L := fun q => c (nI_lt q (by omega))
    conv => whnf
    exact ⟨by unfold hrV; rw [if_neg hc], rfl⟩
theorem v_isLet {h : ia_H} {L pl : Nat} (ht : tpC h L pl) : V_ 31 [.ref 2] h (Z_ (.int (oI (isLt (h.1 3) L pl))) h) := by
  obtain ⟨t1, t2, t3, t4⟩ := ht
  refine ia_V_in ia_k_X4_isLetterHere [some (.ref 2)] rfl rfl (Nat.le_of_ble_eq_true rfl) rfl ?_
  refine ia_walk (fun _ => false) 60 (fun X hX => ?_)
  conv => whnf
  refine And.intro (fun c => ?_) (fun c => ?_)
  · have c : h.1 2 2 < h.1 2 1 := c
    rw [t3, t4] at c
    have hc := (nI_lt_iff (by omega) (by omega)).mp c
    conv => whnf
    refine Exists.intro (pl) (And.intro (And.intro (t4) (by omega)) ?_)
    conv => whnf
    refine And.intro (fun c1 => ?_) (fun c1 => ?_)
    · have c1 : h.1 3 pl < 97 := c1
      conv => whnf
      exact ⟨Or.inl rfl, by unfold isLt; rw [decide_eq_false (show ¬ (97 : Int32) ≤ h.1 3 pl from Int32.not_le.mpr c1), Bool.false_and, Bool.and_false]; rfl, rfl⟩
    · have c1 : ¬ h.1 3 pl < 97 := c1
      conv => whnf
      refine Exists.intro (pl) (And.intro (And.intro (t4) (by omega)) ?_)
      conv => whnf
      refine And.intro (fun c2 => ?_) (fun c2 => ?_)
      · have c2 : 122 < h.1 3 pl := c2
        conv => whnf
        exact ⟨Or.inl rfl, by unfold isLt; rw [decide_eq_false (show ¬ h.1 3 pl ≤ 122 from Int32.not_le.mpr c2), Bool.and_false, Bool.and_false]; rfl, rfl⟩
      · have c2 : ¬ 122 < h.1 3 pl := c2
        conv => whnf
        exact ⟨Or.inr rfl, by unfold isLt; rw [decide_eq_true hc, decide_eq_true (show (97 : Int32) ≤ h.1 3 pl from Int32.not_lt.mp c1), decide_eq_true (show h.1 3 pl ≤ 122 from Int32.not_lt.mp c2)]; rfl, rfl⟩
  · have c : ¬ h.1 2 2 < h.1 2 1 := c
    rw [t3, t4] at c
    have hc : ¬ pl < L := fun q => c (nI_lt q (by omega))
    conv => whnf
    exact ⟨Or.inl rfl, by unfold isLt; rw [decide_eq_false hc, Bool.false_and]; rfl, rfl⟩
theorem l_pB {h : ia_H} {L : Nat} {Z : Option Value → ia_H → Prop} : ∀ (k pl : Nat), pl + k = L → tpC (hPl h pl) L pl → Z none (hPl h (bl (h.1 3) L pl)) → R_ ia_k_X4_passBlanks Z (0, [some (.ref 2)], [], hPl h pl) := by
  intro k
  induction k with
  | zero =>
    intro pl hk ht hZ
    obtain ⟨t1, t2, t3, t4⟩ := ht
    have hp : pl = L := by omega
    rw [show bl (h.1 3) L pl = pl from rn_f (isS_o _ _ _ pl (by omega))] at hZ
    refine ia_walk (fun pc => Nat.beq pc 99) 60 (fun X hX => ?_)
    conv => whnf
    refine And.intro (fun c => ?_) (fun c => ?_)
    · have c : nI pl < (hPl h pl).1 2 1 := c
      rw [t3] at c
      exact absurd c (nI_nlt (by omega) (by omega))
    · conv => whnf
      exact hZ
  | succ k ih =>
    intro pl hk ht hZ
    have ht0 := ht
    obtain ⟨t1, t2, t3, t4⟩ := ht
    have hp : pl < L := by omega
    have nx : isS (h.1 3) L 32 pl = true → R_ ia_k_X4_passBlanks Z (0, [some (.ref 2)], [], hPl h (pl + 1)) := fun q => by
      rw [show bl (h.1 3) L pl = bl (h.1 3) L (pl + 1) from rn_t hp q] at hZ
      exact ih (pl + 1) (by omega) ⟨t1, by omega, t3, rfl⟩ hZ
    refine ia_walk (fun pc => Nat.beq pc 0) 60 (fun X hX => ?_)
    conv => whnf
    refine And.intro (fun c => ?_) (fun c => ?_)
    · conv => whnf
      refine Exists.intro (pl) (And.intro (And.intro (t4) (by omega)) ?_)
      conv => whnf
      refine And.intro (fun c1 => ?_) (fun c1 => ?_)
      · have c1 : h.1 3 pl = 32 := c1
        conv => whnf
        have q := nx (by unfold isS; rw [decide_eq_true hp, decide_eq_true c1]; rfl)
        rw [← hPl_2 h pl (pl + 1)] at q
        have e : hPl (hPl h pl) (pl + 1) = hsI (hPl h pl) 2 (upd ((hPl h pl).1 2) 2 ((hPl h pl).1 2 2 + 1)) := by
          unfold hPl
          rw [← nI_1]
          rfl
        rw [e] at q
        exact hX _ q
      · have c1 : ¬ h.1 3 pl = 32 := c1
        rw [show bl (h.1 3) L pl = pl from rn_f (by unfold isS; rw [decide_eq_false c1, Bool.and_false])] at hZ
        conv => whnf
        exact hZ
    · have c : ¬ (hPl h pl).1 2 2 < (hPl h pl).1 2 1 := c
      rw [t3, t4] at c
      exact absurd (nI_lt hp (by omega)) c
theorem hPl_u (h : ia_H) (pl : Nat) : hsI (hPl h pl) 2 (upd ((hPl h pl).1 2) 2 ((hPl h pl).1 2 2 + 1)) = hPl h (pl + 1) := by
  rw [← hPl_2 h pl (pl + 1)]
  unfold hPl
  rw [← nI_1]
  rfl
theorem v_pB {h : ia_H} {L pl : Nat} (ht : tpC h L pl) : V_ 32 [.ref 2] h (fun r h' => r = none ∧ h' = hPl h (bl (h.1 3) L pl)) := by
  have hl := l_pB (h := h) (L := L) (Z := fun r h' => r = none ∧ h' = hPl h (bl (h.1 3) L pl)) (L - pl) pl (by have := ht.2.1; omega) (tpC_pl ht ht.2.1) ⟨rfl, rfl⟩
  rw [hPl_e ht.2.2.2] at hl
  exact ia_V_in ia_k_X4_passBlanks [some (.ref 2)] rfl rfl (Nat.le_of_ble_eq_true rfl) rfl hl
theorem l_pL {h : ia_H} {L p0 : Nat} {Z : Option Value → ia_H → Prop} : ∀ (k pl : Nat), pl + k = L → tpC (hPl h pl) L pl → p0 ≤ pl → Z (some (.int (nI (rn (isLt (h.1 3) L) L pl - p0)))) (hPl h (rn (isLt (h.1 3) L) L pl)) → R_ ia_k_X4_passLetters Z (5, [some (.ref 2), some (.int (nI p0))], [], hPl h pl) := by
  have hend : ∀ pl, tpC (hPl h pl) L pl → p0 ≤ pl → Z (some (.int (nI (pl - p0)))) (hPl h pl) → R_ ia_k_X4_passLetters Z (36, [some (.ref 2), some (.int (nI p0))], [], hPl h pl) := by
    intro pl ht h0 hZ
    refine ia_walk (fun _ => false) 60 (fun X hX => ?_)
    conv => whnf
    have e : (hPl h pl).1 2 2 - nI p0 = nI (pl - p0) := by
      show nI pl - nI p0 = _
      have e2 : nI pl = nI (pl - p0) + nI p0 := by rw [nI_add]; congr 1; omega
      rw [e2]
      exact Int32.add_sub_cancel _ _
    rw [← e] at hZ
    exact hZ
  intro k
  induction k with
  | zero =>
    intro pl hk ht h0 hZ
    rw [show rn (isLt (h.1 3) L) L pl = pl from rn_f (isLt_o _ _ pl (by omega))] at hZ
    have he := hend pl ht h0 hZ
    obtain ⟨t1, t2, t3, t4⟩ := ht
    refine ia_walk (fun pc => Nat.beq pc 36) 60 (fun X hX => ?_)
    conv => whnf
    refine And.intro (fun c => ?_) (fun c => ?_)
    · have c : (hPl h pl).1 2 2 < (hPl h pl).1 2 1 := c
      rw [t3, t4] at c
      exact absurd c (nI_nlt (by omega) (by omega))
    · conv => whnf
      exact hX _ (he)
  | succ k ih =>
    intro pl hk ht h0 hZ
    have ht0 := ht
    obtain ⟨t1, t2, t3, t4⟩ := ht
    have hp : pl < L := by omega
    refine ia_walk (fun pc => Nat.beq pc 5 || Nat.beq pc 36) 60 (fun X hX => ?_)
    conv => whnf
    refine And.intro (fun c => ?_) (fun c => ?_)
    · conv => whnf
      obtain ⟨v, ev, ev'⟩ := ia_callN (v_isLet ht0)
      refine Exists.intro (_, _) (And.intro ev' ?_)
      clear ev'
      have ev : v = oI (isLt (h.1 3) L pl) := ev
      conv => whnf
      refine And.intro (fun c1 => ?_) (fun c1 => ?_)
      · have q : isLt (h.1 3) L pl = false := oI_0.mp (ev.symm.trans c1)
        rw [show rn (isLt (h.1 3) L) L pl = pl from rn_f q] at hZ
        conv => whnf
        exact hX _ (hend pl ht0 h0 hZ)
      · have q : isLt (h.1 3) L pl = true := by
          cases hq : isLt (h.1 3) L pl
          · rw [hq] at ev; exact absurd ev c1
          · rfl
        rw [show rn (isLt (h.1 3) L) L pl = rn (isLt (h.1 3) L) L (pl + 1) from rn_t hp q] at hZ
        have nx := ih (pl + 1) (by omega) ⟨t1, by omega, t3, rfl⟩ (by omega) hZ
        rw [← hPl_u] at nx
        conv => whnf
        exact hX _ (nx)
    · have c : ¬ (hPl h pl).1 2 2 < (hPl h pl).1 2 1 := c
      rw [t3, t4] at c
      exact absurd (nI_lt hp (by omega)) c
theorem v_pL {h : ia_H} {L pl : Nat} (ht : tpC h L pl) : V_ 33 [.ref 2] h (fun r h' => r = some (.int (nI (rn (isLt (h.1 3) L) L pl - pl))) ∧ h' = hPl h (rn (isLt (h.1 3) L) L pl)) := by
  have hl := l_pL (h := h) (L := L) (p0 := pl) (Z := fun r h' => r = some (.int (nI (rn (isLt (h.1 3) L) L pl - pl))) ∧ h' = hPl h (rn (isLt (h.1 3) L) L pl)) (L - pl) pl (by have := ht.2.1; omega) (tpC_pl ht ht.2.1) (Nat.le_refl _) ⟨rfl, rfl⟩
  rw [hPl_e ht.2.2.2, ← ht.2.2.2] at hl
  refine ia_V_in ia_k_X4_passLetters [some (.ref 2), none] rfl rfl (Nat.le_of_ble_eq_true rfl) rfl ?_
  refine ia_walk (fun pc => Nat.beq pc 5) 60 (fun X hX => ?_)
  conv => whnf
  exact hX _ (hl)
theorem l_pD {h : ia_H} {L p0 : Nat} {Z : Option Value → ia_H → Prop} : ∀ (k pl : Nat), pl + k = L → tpC (hPl h pl) L pl → p0 ≤ pl → Z (some (.int (nI (rn (isDg (h.1 3) L) L pl - p0)))) (hPl h (rn (isDg (h.1 3) L) L pl)) → R_ ia_k_X4_passDigits Z (5, [some (.ref 2), some (.int (nI p0))], [], hPl h pl) := by
  have hend : ∀ pl, tpC (hPl h pl) L pl → p0 ≤ pl → Z (some (.int (nI (pl - p0)))) (hPl h pl) → R_ ia_k_X4_passDigits Z (57, [some (.ref 2), some (.int (nI p0))], [], hPl h pl) := by
    intro pl ht h0 hZ
    refine ia_walk (fun _ => false) 60 (fun X hX => ?_)
    conv => whnf
    have e : (hPl h pl).1 2 2 - nI p0 = nI (pl - p0) := by
      show nI pl - nI p0 = _
      have e2 : nI pl = nI (pl - p0) + nI p0 := by rw [nI_add]; congr 1; omega
      rw [e2]
      exact Int32.add_sub_cancel _ _
    rw [← e] at hZ
    exact hZ
  intro k
  induction k with
  | zero =>
    intro pl hk ht h0 hZ
    rw [show rn (isDg (h.1 3) L) L pl = pl from rn_f (isDg_o _ _ pl (by omega))] at hZ
    have he := hend pl ht h0 hZ
    obtain ⟨t1, t2, t3, t4⟩ := ht
    refine ia_walk (fun pc => Nat.beq pc 57) 60 (fun X hX => ?_)
    conv => whnf
    refine And.intro (fun c => ?_) (fun c => ?_)
    · have c : (hPl h pl).1 2 2 < (hPl h pl).1 2 1 := c
      rw [t3, t4] at c
      exact absurd c (nI_nlt (by omega) (by omega))
    · conv => whnf
      exact hX _ (he)
  | succ k ih =>
    intro pl hk ht h0 hZ
    have ht0 := ht
    obtain ⟨t1, t2, t3, t4⟩ := ht
    have hp : pl < L := by omega
    refine ia_walk (fun pc => Nat.beq pc 5 || Nat.beq pc 57) 60 (fun X hX => ?_)
    conv => whnf
    refine And.intro (fun c => ?_) (fun c => ?_)
    · conv => whnf
      refine Exists.intro (pl) (And.intro (And.intro (t4) (by omega)) ?_)
      conv => whnf
      refine And.intro (fun c1 => ?_) (fun c1 => ?_)
      · have c1 : h.1 3 pl < 48 := c1
        rw [show rn (isDg (h.1 3) L) L pl = pl from rn_f (by unfold isDg; rw [decide_eq_false (show ¬ (48 : Int32) ≤ h.1 3 pl from Int32.not_le.mpr c1), Bool.false_and, Bool.and_false])] at hZ
        conv => whnf
        exact hX _ (hend pl ht0 h0 hZ)
      · have c1 : ¬ h.1 3 pl < 48 := c1
        conv => whnf
        refine Exists.intro (pl) (And.intro (And.intro (t4) (by omega)) ?_)
        conv => whnf
        refine And.intro (fun c2 => ?_) (fun c2 => ?_)
        · have c2 : 57 < h.1 3 pl := c2
          rw [show rn (isDg (h.1 3) L) L pl = pl from rn_f (by unfold isDg; rw [decide_eq_false (show ¬ h.1 3 pl ≤ 57 from Int32.not_le.mpr c2), Bool.and_false, Bool.and_false])] at hZ
          conv => whnf
          exact hX _ (hend pl ht0 h0 hZ)
        · have c2 : ¬ 57 < h.1 3 pl := c2
          rw [show rn (isDg (h.1 3) L) L pl = rn (isDg (h.1 3) L) L (pl + 1) from rn_t hp (by unfold isDg; rw [decide_eq_true hp, decide_eq_true (show (48 : Int32) ≤ h.1 3 pl from Int32.not_lt.mp c1), decide_eq_true (show h.1 3 pl ≤ 57 from Int32.not_lt.mp c2)]; rfl)] at hZ
          have nx := ih (pl + 1) (by omega) ⟨t1, by omega, t3, rfl⟩ (by omega) hZ
          rw [← hPl_u] at nx
          conv => whnf
          exact hX _ (nx)
    · have c : ¬ (hPl h pl).1 2 2 < (hPl h pl).1 2 1 := c
      rw [t3, t4] at c
      exact absurd (nI_lt hp (by omega)) c
theorem v_pD {h : ia_H} {L pl : Nat} (ht : tpC h L pl) : V_ 34 [.ref 2] h (fun r h' => r = some (.int (nI (rn (isDg (h.1 3) L) L pl - pl))) ∧ h' = hPl h (rn (isDg (h.1 3) L) L pl)) := by
  have hl := l_pD (h := h) (L := L) (p0 := pl) (Z := fun r h' => r = some (.int (nI (rn (isDg (h.1 3) L) L pl - pl))) ∧ h' = hPl h (rn (isDg (h.1 3) L) L pl)) (L - pl) pl (by have := ht.2.1; omega) (tpC_pl ht ht.2.1) (Nat.le_refl _) ⟨rfl, rfl⟩
  rw [hPl_e ht.2.2.2, ← ht.2.2.2] at hl
  refine ia_V_in ia_k_X4_passDigits [some (.ref 2), none] rfl rfl (Nat.le_of_ble_eq_true rfl) rfl ?_
  refine ia_walk (fun pc => Nat.beq pc 5) 60 (fun X hX => ?_)
  conv => whnf
  exact hX _ (hl)
theorem l_num {h : ia_H} {L b len : Nat} (hL : L ≤ 300) (e1 : h.1 2 1 = nI L) (hb : b + len ≤ L) {Z : Option Value → ia_H → Prop} (hZ : Z (some (.long (numV (h.1 3) b len))) h) : ∀ (k i : Nat), i + k = len → R_ ia_k_X4_numberAt Z (5, [some (.ref 2), some (.int (nI b)), some (.int (nI len)), some (.long (numV (h.1 3) b i)), none, some (.int (nI (b + i)))], [], h) := by
  have eb : nI b + nI len = nI (b + len) := nI_add b len
  intro k
  induction k with
  | zero =>
    intro i hk
    have hk : i = len := by omega
    subst hk
    refine ia_walk (fun pc => Nat.beq pc 5) 60 (fun X hX => ?_)
    conv => whnf
    refine And.intro (fun c => ?_) (fun c => ?_)
    · have c : nI (b + i) < nI b + nI i := c
      rw [eb] at c
      exact absurd c (nI_nlt (Nat.le_refl _) (by omega))
    · conv => whnf
      exact hZ
  | succ k ih =>
    intro i hk
    have ih := ih (i + 1) (by omega)
    rw [numV, ← Nat.add_assoc, ← nI_1] at ih
    refine ia_walk (fun pc => Nat.beq pc 5) 60 (fun X hX => ?_)
    conv => whnf
    refine And.intro (fun c => ?_) (fun c => ?_)
    · conv => whnf
      refine And.intro (fun c1 => ?_) (fun c1 => ?_)
      · conv => whnf
        refine Exists.intro _ (And.intro (And.intro rfl (by omega)) ?_)
        conv => whnf
        exact hX _ ih
      · have c1 : ¬ nI (b + i) < h.1 2 1 := c1
        rw [e1] at c1
        exact absurd (nI_lt (by omega) (by omega)) c1
    · have c : ¬ nI (b + i) < nI b + nI len := c
      rw [eb] at c
      exact absurd (nI_lt (by omega) (by omega)) c
theorem v_num {h : ia_H} {L b len : Nat} (hL : L ≤ 300) (e1 : h.1 2 1 = nI L) (hb : b + len ≤ L) : V_ 35 [.ref 2, .int (nI b), .int (nI len)] h (Zl_ (numV (h.1 3) b len) h) := by
  refine ia_V_in ia_k_X4_numberAt [some (.ref 2), some (.int (nI b)), some (.int (nI len)), none, none, none] rfl rfl (Nat.le_of_ble_eq_true rfl) rfl ?_
  refine ia_walk (fun pc => Nat.beq pc 5) 60 (fun X hX => ?_)
  conv => whnf
  exact hX _ (l_num hL e1 hb (Z := Zl_ (numV (h.1 3) b len) h) ⟨rfl, rfl⟩ len 0 (by omega))
/-- a fault counts only if there is none yet -/
def ftF (ft : Int32) (e : Nat) : Int32 := if ft = 0 then nI e else ft
def hFt (h : ia_H) (v : Int32) : ia_H := hsI h 1 (upd (h.1 1) 3 v)
theorem hFt_e {h : ia_H} {v : Int32} (e : h.1 1 3 = v) : hFt h v = h := by
  unfold hFt
  have : upd (h.1 1) 3 v = h.1 1 := by
    funext j
    simp only [upd]
    by_cases z : j = 3
    · rw [if_pos z, z, e]
    · rw [if_neg z]
  rw [this, hsI_eta]
theorem v_fail (h : ia_H) {pl w : Nat} : V_ 21 [.ref 1, .int (nI pl), .int (nI w)] h (fun r h' => r = none ∧ h' = hFt h (ftF (h.1 1 3) (8 * pl + w))) := by
  have e : (8 : Int32) * nI pl + nI w = nI (8 * pl + w) := ix2 (pk_mul 8 pl)
  refine ia_V_in ia_k_X3_fail [some (.ref 1), some (.int (nI pl)), some (.int (nI w))] rfl rfl (Nat.le_of_ble_eq_true rfl) rfl ?_
  refine ia_walk (fun _ => false) 60 (fun X hX => ?_)
  conv => whnf
  refine And.intro (fun c => ?_) (fun c => ?_)
  · have c : h.1 1 3 = 0 := c
    conv => whnf
    refine ⟨rfl, ?_⟩
    unfold ftF
    rw [if_pos c, ← e]
    rfl
  · have c : ¬ h.1 1 3 = 0 := c
    conv => whnf
    refine ⟨rfl, ?_⟩
    unfold ftF
    rw [if_neg c, hFt_e rfl]
theorem v_isNameAt {h : ia_H} {d : tdT} (hok : tdOk d) (hc : cDat h 4 d) {f : Nat → Int32} (ef : h.1 3 = f) {g pl len L : Nat} (hL : L ≤ 300) (g1 : 1 ≤ g) (g2 : g < tdG d) (hlen : tdL d g = len) (hpl : pl + len ≤ L) (hcd : ∀ k, k < len → byR (f (pl + k))) : V_ 37 [.ref 4, .int (nI g), .ref 2, .int (nI pl)] h (Z_ (.int (oI (decide (∀ k, k < len → f (pl + k) = nI (96 + tdC d g k))))) h) := by
  obtain ⟨o1, o2, o3⟩ := hok.2.2.2.1 g g1 g2
  have oG := hok.2.1
  obtain ⟨q1, q2⟩ := hc.2.1 g g1 g2
  have q1 : h.1 6 g = nI len := by rw [← hlen]; exact q1
  have q2 : ∀ k, k < len → h.1 5 (6 * g + k) = nI (96 + tdC d g k) := by rw [← hlen]; exact q2
  have loop : ∀ (k i : Nat), i + k = len → (∀ m, m < i → f (pl + m) = nI (96 + tdC d g m)) → R_ ia_k_X5_isNameAt (Z_ (.int (oI (decide (∀ k, k < len → f (pl + k) = nI (96 + tdC d g k))))) h) (3, [some (.ref 4), some (.int (nI g)), some (.ref 2), some (.int (nI pl)), some (.int (nI i))], [], h) := by
    intro k
    induction k with
    | zero =>
      intro i hk hm
      have hk : i = len := by omega
      subst hk
      refine ia_walk (fun pc => Nat.beq pc 3) 60 (fun X hX => ?_)
      conv => whnf
      refine Exists.intro _ (And.intro (And.intro rfl (by omega)) ?_)
      conv => whnf
      refine And.intro (fun c => ?_) (fun c => ?_)
      · have c : nI i < h.1 6 g := c
        rw [q1] at c
        exact absurd c (nI_nlt (Nat.le_refl _) (by omega))
      · conv => whnf
        exact ⟨Or.inr rfl, by rw [decide_eq_true hm]; rfl, rfl⟩
    | succ k ih =>
      intro i hk hm
      have hil : i < len := by omega
      have i1 : nI g * 6 + nI i = nI (6 * g + i) := by
        rw [Int32.mul_comm, show (6 : Int32) * nI g = nI (6 * g) from pk_mul 6 g, nI_add]
      have i2 : nI pl + nI i = nI (pl + i) := nI_add pl i
      refine ia_walk (fun pc => Nat.beq pc 3) 60 (fun X hX => ?_)
      conv => whnf
      refine Exists.intro _ (And.intro (And.intro rfl (by omega)) ?_)
      conv => whnf
      refine And.intro (fun c => ?_) (fun c => ?_)
      · conv => whnf
        refine Exists.intro (6 * g + i) (And.intro (And.intro (i1) (by omega)) ?_)
        conv => whnf
        refine Exists.intro (pl + i) (And.intro (And.intro (i2) (by omega)) ?_)
        conv => whnf
        refine And.intro (fun c1 => ?_) (fun c1 => ?_)
        · have c1 : h.1 5 (6 * g + i) = h.1 3 (pl + i) := c1
          conv => whnf
          rw [nI_1]
          refine hX _ (ih (i + 1) (by omega) (fun m hm2 => ?_))
          by_cases e : m = i
          · rw [e, ← ef, ← c1, q2 i hil]
          · exact hm m (by omega)
        · have c1 : ¬ h.1 5 (6 * g + i) = h.1 3 (pl + i) := c1
          conv => whnf
          exact ⟨Or.inl rfl, by rw [decide_eq_false (fun q => c1 (by rw [q2 i hil, ef, q i hil]))]; rfl, rfl⟩
      · have c : ¬ nI i < h.1 6 g := c
        rw [q1] at c
        exact absurd (nI_lt hil (by omega)) c
  refine ia_V_in ia_k_X5_isNameAt [some (.ref 4), some (.int (nI g)), some (.ref 2), some (.int (nI pl)), none] rfl rfl (Nat.le_of_ble_eq_true rfl) rfl ?_
  refine ia_walk (fun pc => Nat.beq pc 3) 60 (fun X hX => ?_)
  conv => whnf
  exact hX _ (loop len 0 (by omega) (fun m hm => absurd hm (Nat.not_lt_zero m)))
