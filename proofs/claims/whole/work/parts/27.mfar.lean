/-! The reference's laysFar: the same order as the class's reachFrom -/
def cst (sd : Nat → Bool) (w : Nat) : Bool := sd (w / 2)
def csr (A B : Nat → Nat) (w : Nat) : Nat := if w % 2 = 0 then A (w / 2) else B (w / 2)
def cdt (A B : Nat → Nat) (w : Nat) : Nat := if w % 2 = 0 then B (w / 2) else A (w / 2)
theorem c_even (sd : Nat → Bool) (A B : Nat → Nat) (s : Nat) : cst sd (2 * s) = sd s ∧ csr A B (2 * s) = A s ∧ cdt A B (2 * s) = B s := by
  unfold cst csr cdt
  rw [show 2 * s / 2 = s by omega, if_pos (show 2 * s % 2 = 0 by omega), if_pos (show 2 * s % 2 = 0 by omega)]
  exact ⟨rfl, rfl, rfl⟩
theorem c_odd (sd : Nat → Bool) (A B : Nat → Nat) (s : Nat) : cst sd (2 * s + 1) = sd s ∧ csr A B (2 * s + 1) = B s ∧ cdt A B (2 * s + 1) = A s := by
  unfold cst csr cdt
  rw [show (2 * s + 1) / 2 = s by omega, if_neg (show ¬ (2 * s + 1) % 2 = 0 by omega), if_neg (show ¬ (2 * s + 1) % 2 = 0 by omega)]
  exact ⟨rfl, rfl, rfl⟩
/-- a statement's two ways -/
theorem bsW_2 {sd : Nat → Bool} {A B : Nat → Nat} {rm : Nat → Bool} {a s : Nat} {S : bsT} (hab : A s ≠ B s) : bsW (cst sd) (csr A B) (cdt A B) rm a S (2 * (s + 1)) = if sd s = true then (if A s = a then bsS rm (cdt A B) a (bsW (cst sd) (csr A B) (cdt A B) rm a S (2 * s)) (2 * s) else if B s = a then bsS rm (cdt A B) a (bsW (cst sd) (csr A B) (cdt A B) rm a S (2 * s)) (2 * s + 1) else bsW (cst sd) (csr A B) (cdt A B) rm a S (2 * s)) else bsW (cst sd) (csr A B) (cdt A B) rm a S (2 * s) := by
  obtain ⟨e1, e2, e3⟩ := c_even sd A B s
  obtain ⟨o1, o2, o3⟩ := c_odd sd A B s
  rw [show 2 * (s + 1) = 2 * s + 1 + 1 by omega, bsW, bsW, e1, e2, o1, o2]
  by_cases hs : sd s = true
  · rw [if_pos hs]
    by_cases hA : A s = a
    · rw [if_pos hA, if_neg (show ¬ (sd s = true ∧ B s = a) from fun q => hab (hA.trans q.2.symm)), if_pos (show sd s = true ∧ A s = a from ⟨hs, hA⟩)]
    · rw [if_neg hA, if_neg (show ¬ (sd s = true ∧ A s = a) from fun q => hA q.2)]
      by_cases hB : B s = a
      · rw [if_pos hB, if_pos (show sd s = true ∧ B s = a from ⟨hs, hB⟩)]
      · rw [if_neg hB, if_neg (show ¬ (sd s = true ∧ B s = a) from fun q => hB q.2)]
  · rw [if_neg hs, if_neg (show ¬ (sd s = true ∧ B s = a) from fun q => hs q.1), if_neg (show ¬ (sd s = true ∧ A s = a) from fun q => hs q.1)]
theorem bsW_end {sd : Nat → Bool} {A B : Nat → Nat} {rm : Nat → Bool} {a n : Nat} {S : bsT} (hn : n ≤ 120) (hsd : ∀ s, n ≤ s → sd s = false) : bsW (cst sd) (csr A B) (cdt A B) rm a S 240 = bsW (cst sd) (csr A B) (cdt A B) rm a S (2 * n) := by
  refine (bsW_skip (w := 2 * n) (v := 240) (by omega) (fun u h1 h2 hc => ?_)).1
  have : sd (u / 2) = true := hc.1
  rw [hsd (u / 2) (by omega)] at this
  cases this
/-- the reference's statements -/
def mdOk (h : ia_H) (n G : Nat) (sd : Nat → Bool) (A B : Nat → Nat) : Prop := n ≤ 120 ∧ G ≤ 41 ∧ h.1 52 10 = nI n ∧ h.1 52 4 = nI G ∧ (∀ s, s < n → h.1 56 s = nI (A s) ∧ A s < G ∧ h.1 57 s = nI (B s) ∧ B s < G ∧ A s ≠ B s ∧ sd s = !decide ((1 : Int32) < h.1 62 s)) ∧ ∀ s, n ≤ s → sd s = false
theorem m_isStanding (h : ia_H) (s : Nat) (hs : s < 132) : V_ 119 [.ref 52, .int (nI s)] h (Z_ (.int (bif !decide ((1 : Int32) < h.1 62 s) then 1 else 0)) h) := by
  refine ia_V_in ia_k_X8_isStanding [some (.ref 52), some (.int (nI s))] rfl rfl (Nat.le_of_ble_eq_true rfl) rfl ?_
  refine ia_walk (fun _ => false) 50 (fun X hX => ?_)
  conv => whnf
  refine Exists.intro _ (And.intro (And.intro rfl (hs)) ?_)
  conv => whnf
  refine And.intro (fun c => ?_) (fun c => ?_)
  · conv => whnf
    exact ⟨Or.inl rfl, by rw [decide_eq_true c]; rfl, rfl⟩
  · conv => whnf
    exact ⟨Or.inr rfl, by rw [decide_eq_false c]; rfl, rfl⟩
/-- the heap with queue and far put in -/
def hF (h : ia_H) (Q F : Nat → Int32) : ia_H := hsI (hsI h 67 Q) 69 F
theorem hF_67 (h : ia_H) (Q F Q2 : Nat → Int32) : hsI (hF h Q F) 67 Q2 = hF h Q2 F := by
  unfold hF
  rw [hsI_comm _ (by decide : (69 : Nat) ≠ 67), hsI_same]
theorem hF_69 (h : ia_H) (Q F F2 : Nat → Int32) : hsI (hF h Q F) 69 F2 = hF h Q F2 := hsI_same _ _ _ _
/-- far holds the steps of the gauges below G -/
def frOk (G : Nat) (F d : Nat → Int32) : Prop := ∀ g, g < G → F g = d g
theorem frOk_put {G : Nat} {F d : Nat → Int32} (h : frOk G F d) (t : Nat) (x : Int32) : frOk G (upd F t x) (upd d t x) := fun g hg => by
  simp only [upd]
  by_cases e : g = t
  · rw [if_pos e, if_pos e]
  · rw [if_neg e, if_neg e]; exact h g hg
abbrev tt : Nat → Bool := fun _ => true
theorem l_far1 (h : ia_H) (n G : Nat) (sd : Nat → Bool) (A B : Nat → Nat) (hd : mdOk h n G sd A B) (e0 : Int32) (i a : Nat) (S0 : bsT) (h0 : bsOk G S0) (hi : i < S0.1.length) (ha : S0.1[i] = a) {Z : Option Value → ia_H → Prop}
    (hN : ∀ (Q F : Nat → Int32) (a4 a5 : Option Value), rwOk Q (bsW (cst sd) (csr A B) (cdt A B) tt a S0 240).1 → frOk G F (bsW (cst sd) (csr A B) (cdt A B) tt a S0 240).2.1 → R_ ia_k_X8_laysFar Z (188, [some (.ref 52), some (.int e0), some (.int (nI (bsW (cst sd) (csr A B) (cdt A B) tt a S0 240).1.length)), some (.int (nI i)), a4, a5], [], hF h Q F)) :
    ∀ (k s : Nat), s + k = n → ∀ (S : bsT), S = bsW (cst sd) (csr A B) (cdt A B) tt a S0 (2 * s) → ∀ (Q F : Nat → Int32) (a5 : Option Value), rwOk Q S.1 → frOk G F S.2.1 → R_ ia_k_X8_laysFar Z (49, [some (.ref 52), some (.int e0), some (.int (nI S.1.length)), some (.int (nI i)), some (.int (nI s)), a5], [], hF h Q F) := by
  obtain ⟨hn, hG, eN, eG, hS, hsd⟩ := hd
  have haS : a ∈ S0.1 := by rw [← ha]; exact List.getElem_mem hi
  have haG := (h0.2.1 a haS).1
  have hdt : ∀ w, w < 240 → cst sd w = true → cdt A B w < G := by
    intro w hw hs
    have h1 : w / 2 < n := by
      rcases Nat.lt_or_ge (w / 2) n with q | q
      · exact q
      · have : sd (w / 2) = true := hs
        rw [hsd _ q] at this; cases this
    obtain ⟨-, q2, -, q4, -⟩ := hS _ h1
    unfold cdt
    split
    · exact q4
    · exact q2
  intro k
  induction k with
  | zero =>
    intro s hs S eS Q F a5 hQ hF0
    have es : s = n := by omega
    subst es
    rw [← bsW_end hn hsd] at eS
    refine ia_walk (fun pc => Nat.beq pc 188) 50 (fun X hX => ?_)
    conv => whnf
    refine And.intro (fun c => ?_) (fun c => ?_)
    · exact absurd (show nI s < h.1 52 10 from c) (by rw [eN]; exact nI_nlt (Nat.le_refl _) (by omega))
    · conv => whnf
      rw [eS] at hQ hF0 ⊢
      exact hX _ (hN Q F _ _ hQ hF0)
  | succ k ih =>
    intro s hs S eS Q F a5 hQ hF0
    have hlt : s < n := by omega
    obtain ⟨s1, s2, s3, s4, s5, s6⟩ := hS s hlt
    obtain ⟨okS, aS⟩ := bsW_ok (st := cst sd) (sr := csr A B) (rm := tt) hdt h0 haS (2 * s) (by omega)
    rw [← eS] at okS aS
    have lenS := bsOk_len okS
    have hlS : S0.1.length ≤ S.1.length := by rw [eS]; exact bsW_len _
    -- the i-th of the row is a still
    have pre : ∀ w, ∃ l, (bsW (cst sd) (csr A B) (cdt A B) tt a S0 w).1 = S0.1 ++ l := by
      intro w
      induction w with
      | zero => exact ⟨[], by simp [bsW]⟩
      | succ w ihw =>
        obtain ⟨l, el⟩ := ihw
        rw [bsW]
        by_cases hc : cst sd w = true ∧ csr A B w = a
        · rw [if_pos hc]
          unfold bsS
          by_cases hq : cdt A B w ∈ (bsW (cst sd) (csr A B) (cdt A B) tt a S0 w).1 ∨ tt w = false
          · rw [if_pos hq]; exact ⟨l, el⟩
          · rw [if_neg hq]
            exact ⟨l ++ [cdt A B w], by show (bsW (cst sd) (csr A B) (cdt A B) tt a S0 w).1 ++ _ = _; rw [el, List.append_assoc]⟩
        · rw [if_neg hc]; exact ⟨l, el⟩
    have eQ : Q i = nI a := by
      obtain ⟨l, el⟩ := pre (2 * s)
      rw [hQ i (by omega)]
      have e1 : S.1[i]'(by omega) = a := by
        have : S.1[i]? = some a := by
          rw [eS, el, List.getElem?_append_left hi, List.getElem?_eq_getElem hi, ha]
        obtain ⟨_, q⟩ := List.getElem?_eq_some_iff.mp this
        exact q
      rw [e1]
    have b2 := bsW_2 (rm := tt) (a := a) (S := S0) (sd := sd) s5
    rw [← eS] at b2
    obtain ⟨ev1, ev2, ev3⟩ := c_even sd A B s
    obtain ⟨od1, od2, od3⟩ := c_odd sd A B s
    have next : ∀ (S2 : bsT) (Q2 F2 : Nat → Int32) (a5 : Option Value), S2 = bsW (cst sd) (csr A B) (cdt A B) tt a S0 (2 * (s + 1)) → rwOk Q2 S2.1 → frOk G F2 S2.2.1 → R_ ia_k_X8_laysFar Z (182, [some (.ref 52), some (.int e0), some (.int (nI S2.1.length)), some (.int (nI i)), some (.int (nI s)), a5], [], hF h Q2 F2) := by
      intro S2 Q2 F2 a5 h2 hQ2 hF2
      refine ia_walk (fun pc => Nat.beq pc 49) 50 (fun X hX => ?_)
      conv => whnf
      rw [nI_1]
      exact hX _ (ih (s + 1) (by omega) S2 h2 Q2 F2 a5 hQ2 hF2)
    -- the gauge at the other end, t
    have go : ∀ (t w : Nat), t < G → cdt A B w = t → bsW (cst sd) (csr A B) (cdt A B) tt a S0 (2 * (s + 1)) = bsS tt (cdt A B) a S w → R_ ia_k_X8_laysFar Z (135, [some (.ref 52), some (.int e0), some (.int (nI S.1.length)), some (.int (nI i)), some (.int (nI s)), a5], [.int (nI t)], hF h Q F) := by
      intro t w ht hw eW
      have eF : F t = S.2.1 t := hF0 t ht
      have eFa : F a = S.2.1 a := hF0 a haG
      refine ia_walk (fun pc => Nat.beq pc 182) 60 (fun X hX => ?_)
      conv => whnf
      refine Exists.intro _ (And.intro (And.intro rfl (by omega)) ?_)
      conv => whnf
      refine And.intro (fun c1 => ?_) (fun c1 => ?_)
      · have hni : ¬ t ∈ S.1 := (bsOk_in okS hG (by omega)).mp (eF.symm.trans c1)
        have hcl : S.1.length < 41 := by
          have := bsOk_len (bsOk_put (w := nI w) okS aS hni ht)
          simp only [List.length_append, List.length_cons, List.length_nil] at this
          omega
        conv => whnf
        refine Exists.intro _ (And.intro (And.intro rfl (by omega)) ?_)
        conv => whnf
        refine Exists.intro (a) (And.intro (And.intro (eQ) (by omega)) ?_)
        conv => whnf
        refine Exists.intro _ (And.intro (And.intro rfl (by omega)) ?_)
        conv => whnf
        refine Exists.intro _ (And.intro (And.intro rfl (by omega)) ?_)
        conv => whnf
        rw [nI_1]
        have e3 : bsS tt (cdt A B) a S w = (S.1 ++ [t], upd S.2.1 t (S.2.1 a + 1), upd S.2.2 t (nI w)) := by
          unfold bsS
          rw [hw, if_neg (fun q => q.elim hni (fun z => by cases z))]
        have hX2 := next (S.1 ++ [t], upd S.2.1 t (S.2.1 a + 1), upd S.2.2 t (nI w)) (upd Q S.1.length (nI t)) (upd F t (F a + 1)) (some (.int (nI t))) (by rw [eW, e3]) (rwOk_put hQ t) (by rw [eFa]; exact frOk_put hF0 t _)
        simp only [List.length_append, List.length_cons, List.length_nil] at hX2
        have e5 : hsI (hsI (hF h Q F) 69 (upd F t (F a + 1))) 67 (upd Q S.1.length (nI t)) = hF h (upd Q S.1.length (nI t)) (upd F t (F a + 1)) := by rw [hF_69, hF_67]
        exact hX _ (e5 ▸ hX2 : ia_Run _ _ _ _ (182, _, _, hsI (hsI (hF h Q F) 69 (upd F t (F a + 1))) 67 (upd Q S.1.length (nI t))))
      · have hin : t ∈ S.1 := Classical.not_not.mp (fun q => c1 (eF.trans ((bsOk_in okS hG (by omega)).mpr q)))
        conv => whnf
        refine hX _ (next S Q F _ ?_ hQ hF0)
        rw [eW]
        unfold bsS
        rw [hw, if_pos (Or.inl hin)]
    refine ia_walk (fun pc => Nat.beq pc 135 || Nat.beq pc 182) 80 (fun X hX => ?_)
    conv => whnf
    refine And.intro (fun c => ?_) (fun c => ?_)
    · conv => whnf
      obtain ⟨x, ex, ev⟩ := ia_callN (f := Value.int) (m_isStanding (hF h Q F) s (by omega))
      refine Exists.intro (_, _) (And.intro ev ?_)
      have ex : x = bif sd s then 1 else 0 := by rw [ex, s6]; rfl
      conv => whnf
      refine And.intro (fun c1 => ?_) (fun c1 => ?_)
      · have hsf : sd s = false := by
          cases hq : sd s
          · rfl
          · rw [hq] at ex; rw [ex] at c1; exact absurd c1 (by decide)
        rw [hsf, if_neg (by decide)] at b2
        conv => whnf
        exact hX _ (next S Q F _ b2.symm hQ hF0)
      · have hst : sd s = true := by
          cases hq : sd s
          · rw [hq] at ex; exact absurd ex c1
          · rfl
        rw [if_pos hst] at b2
        conv => whnf
        refine Exists.intro _ (And.intro (And.intro rfl (by omega)) ?_)
        conv => whnf
        refine Exists.intro _ (And.intro (And.intro rfl (by omega)) ?_)
        conv => whnf
        refine And.intro (fun c2 => ?_) (fun c2 => ?_)
        · have hA : A s = a := nI_inj (by omega) (by omega) (s1.symm.trans ((show h.1 56 s = Q i from c2).trans eQ))
          rw [if_pos hA] at b2
          conv => whnf
          refine Exists.intro _ (And.intro (And.intro rfl (by omega)) ?_)
          conv => whnf
          refine Exists.intro _ (And.intro (And.intro rfl (by omega)) ?_)
          conv => whnf
          refine And.intro (fun c3 => ?_) (fun c3 => ?_)
          · conv => whnf
            refine Exists.intro _ (And.intro (And.intro rfl (by omega)) ?_)
            conv => whnf
            have g := go (B s) (2 * s) s4 ev3 b2
            rw [← s3] at g
            exact hX _ g
          · exact absurd c2 c3
        · have hA : ¬ A s = a := fun q => c2 (show h.1 56 s = Q i by rw [s1, eQ, q])
          rw [if_neg hA] at b2
          conv => whnf
          refine Exists.intro _ (And.intro (And.intro rfl (by omega)) ?_)
          conv => whnf
          refine Exists.intro _ (And.intro (And.intro rfl (by omega)) ?_)
          conv => whnf
          refine And.intro (fun c3 => ?_) (fun c3 => ?_)
          · have hB : B s = a := nI_inj (by omega) (by omega) (s3.symm.trans ((show h.1 57 s = Q i from c3).trans eQ))
            rw [if_pos hB] at b2
            conv => whnf
            refine Exists.intro _ (And.intro (And.intro rfl (by omega)) ?_)
            conv => whnf
            refine Exists.intro _ (And.intro (And.intro rfl (by omega)) ?_)
            conv => whnf
            refine And.intro (fun c4 => ?_) (fun c4 => ?_)
            · exact absurd c4 c2
            · conv => whnf
              refine Exists.intro _ (And.intro (And.intro rfl (by omega)) ?_)
              conv => whnf
              have g := go (A s) (2 * s + 1) s2 od3 b2
              rw [← s1] at g
              exact hX _ g
          · have hB : ¬ B s = a := fun q => c3 (show h.1 57 s = Q i by rw [s3, eQ, q])
            rw [if_neg hB] at b2
            conv => whnf
            exact hX _ (next S Q F _ b2.symm hQ hF0)
    · exact absurd (show nI s < h.1 52 10 by rw [eN]; exact nI_lt hlt (by omega)) c
theorem l_far2 (h : ia_H) (n G : Nat) (sd : Nat → Bool) (A B : Nat → Nat) (hd : mdOk h n G sd A B) (e0 : Int32) {Z : Option Value → ia_H → Prop} : ∀ (k i : Nat) (S : bsT), 41 < i + k → i ≤ S.1.length → bsOk G S → (∀ Q F, rwOk Q (bsR (cst sd) (csr A B) (cdt A B) tt k i S).1 → frOk G F (bsR (cst sd) (csr A B) (cdt A B) tt k i S).2.1 → Z none (hF h Q F)) → ∀ (Q F : Nat → Int32) (a4 a5 : Option Value), rwOk Q S.1 → frOk G F S.2.1 → R_ ia_k_X8_laysFar Z (41, [some (.ref 52), some (.int e0), some (.int (nI S.1.length)), some (.int (nI i)), a4, a5], [], hF h Q F) := by
  have hd0 := hd
  obtain ⟨hn, hG, eN, eG, hS, hsd⟩ := hd
  have hdt : ∀ w, w < 240 → cst sd w = true → cdt A B w < G := by
    intro w hw hs
    have h1 : w / 2 < n := by
      rcases Nat.lt_or_ge (w / 2) n with q | q
      · exact q
      · have : sd (w / 2) = true := hs
        rw [hsd _ q] at this; cases this
    obtain ⟨-, q2, -, q4, -⟩ := hS _ h1
    unfold cdt
    split
    · exact q4
    · exact q2
  intro k
  induction k with
  | zero =>
    intro i S hk hi hok
    have := bsOk_len hok
    omega
  | succ k ih =>
    intro i S hk hi hok hZ Q F a4 a5 hQ hF0
    have lenS := bsOk_len hok
    by_cases hlt : i < S.1.length
    · have ha : S.1[i] ∈ S.1 := List.getElem_mem hlt
      rw [bsR, dif_pos hlt] at hZ
      obtain ⟨a, hae⟩ : ∃ a, S.1[i] = a := ⟨_, rfl⟩
      rw [hae] at ha hZ
      obtain ⟨ok2, -⟩ := bsW_ok (st := cst sd) (sr := csr A B) (rm := tt) hdt hok ha 240 (Nat.le_refl _)
      refine ia_walk (fun pc => Nat.beq pc 49) 80 (fun X hX => ?_)
      conv => whnf
      refine And.intro (fun c => ?_) (fun c => ?_)
      · have l1 := l_far1 h n G sd A B hd0 e0 i a S hok hlt hae (Z := Z) (fun Q2 F2 b4 b5 hQ2 hF2 => by
          refine ia_walk (fun pc => Nat.beq pc 41) 50 (fun X hX => ?_)
          conv => whnf
          rw [nI_1]
          exact hX _ (ih (i + 1) _ (by omega) (Nat.le_trans (by omega) (bsW_len 240)) ok2 hZ Q2 F2 _ _ hQ2 hF2)) n 0 (by omega) S rfl Q F a5 hQ hF0
        conv => whnf
        exact hX _ (l1)
      · exact absurd (nI_lt hlt (by omega)) c
    · rw [bsR, dif_neg hlt] at hZ
      refine ia_walk (fun pc => Nat.beq pc 41) 80 (fun X hX => ?_)
      conv => whnf
      refine And.intro (fun c => ?_) (fun c => ?_)
      · exact absurd c (nI_nlt (by omega) (by omega))
      · conv => whnf
        exact hZ Q F hQ hF0
theorem l_far0 (h : ia_H) (G : Nat) (hG : G ≤ 41) (eG : h.1 52 4 = nI G) (e : Int32) {Z : Option Value → ia_H → Prop} (hN : ∀ w : Option Value, R_ ia_k_X8_laysFar Z (23, [some (.ref 52), some (.int e), w, none, none, none], [], hsI h 69 (flF (h.1 69) G (-1)))) : ∀ k g : Nat, g + k = G → R_ ia_k_X8_laysFar Z (2, [some (.ref 52), some (.int e), some (.int (nI g)), none, none, none], [], hsI h 69 (flF (h.1 69) g (-1))) := by
  intro k
  induction k with
  | zero =>
    intro g hg
    have eg : g = G := by omega
    subst eg
    refine ia_walk (fun pc => Nat.beq pc 23) 50 (fun X hX => ?_)
    conv => whnf
    refine And.intro (fun c => ?_) (fun c => ?_)
    · exact absurd (show nI g < h.1 52 4 from c) (by rw [eG]; exact nI_nlt (Nat.le_refl g) (by omega))
    · conv => whnf
      exact hX _ (hN _)
  | succ k ih =>
    intro g hg
    refine ia_walk (fun pc => Nat.beq pc 2) 50 (fun X hX => ?_)
    conv => whnf
    refine And.intro (fun c => ?_) (fun c => ?_)
    · conv => whnf
      refine Exists.intro _ (And.intro (And.intro rfl (by omega)) ?_)
      conv => whnf
      rw [nI_1]
      have e : hsI (hsI h 69 (flF (h.1 69) g (-1))) 69 (upd (flF (h.1 69) g (-1)) g (-1)) = hsI h 69 (flF (h.1 69) (g + 1) (-1)) := by rw [hsI_same, flF_s]
      exact hX _ (e ▸ ih (g + 1) (by omega) : ia_Run _ _ _ _ (2, _, _, hsI (hsI h 69 (flF (h.1 69) g (-1))) 69 (upd (flF (h.1 69) g (-1)) g (-1))))
    · exact absurd (show nI g < h.1 52 4 by rw [eG]; exact nI_lt (by omega) (by omega)) c
/-- nothing is reached yet -/
def bs0 : bsT := ([], fun _ => -1, fun _ => -1)
theorem bs0_ok (m : Nat) : bsOk m bs0 := ⟨List.nodup_nil, fun g hg => (List.not_mem_nil hg).elim, fun _ _ _ => rfl⟩
theorem v_laysFar (h : ia_H) (n G : Nat) (sd : Nat → Bool) (A B : Nat → Nat) (hd : mdOk h n G sd A B) (e : Nat) (he : e < G) : V_ 149 [.ref 52, .int (nI e)] h (fun r h' => r = none ∧ ∃ Q F, rwOk Q (bsF (cst sd) (csr A B) (cdt A B) tt e bs0).1 ∧ frOk G F (bsF (cst sd) (csr A B) (cdt A B) tt e bs0).2.1 ∧ h' = hF h Q F) := by
  have hd0 := hd
  obtain ⟨hn, hG, eN, eG, hS, hsd⟩ := hd
  refine ia_V_in ia_k_X8_laysFar [some (.ref 52), some (.int (nI e)), none, none, none, none] rfl rfl (Nat.le_of_ble_eq_true rfl) rfl ?_
  refine ia_walk (fun pc => Nat.beq pc 2) 50 (fun X hX => ?_)
  conv => whnf
  have l0 := l_far0 h G hG eG (nI e) (Z := fun r h' => r = none ∧ ∃ Q F, rwOk Q (bsF (cst sd) (csr A B) (cdt A B) tt e bs0).1 ∧ frOk G F (bsF (cst sd) (csr A B) (cdt A B) tt e bs0).2.1 ∧ h' = hF h Q F) (fun w => by
    refine ia_walk (fun pc => Nat.beq pc 41) 50 (fun X hX => ?_)
    conv => whnf
    refine Exists.intro _ (And.intro (And.intro rfl (by omega)) ?_)
    conv => whnf
    refine Exists.intro (0) (And.intro (And.intro (rfl) (by omega)) ?_)
    conv => whnf
    have l2 := l_far2 h n G sd A B hd0 (nI e) (Z := fun r h' => r = none ∧ ∃ Q F, rwOk Q (bsF (cst sd) (csr A B) (cdt A B) tt e bs0).1 ∧ frOk G F (bsF (cst sd) (csr A B) (cdt A B) tt e bs0).2.1 ∧ h' = hF h Q F) 42 0 (bsP e bs0) (by omega) (by omega) (bsP_ok (bs0_ok G) he (by simp [bs0])) (fun Q F h1 h2 => ⟨rfl, Q, F, h1, h2, rfl⟩) (upd (h.1 67) 0 (nI e)) (upd (flF (h.1 69) G (-1)) e 0) none none (rwOk_put (R := h.1 67) (q := []) (fun i hi => absurd hi (Nat.not_lt_zero i)) e) (frOk_put (F := flF (h.1 69) G (-1)) (d := fun _ => -1) (fun g hg => if_pos hg) e 0)
    have e5 : hsI (hsI (hsI h 69 (flF (h.1 69) G (-1))) 69 (upd (flF (h.1 69) G (-1)) e 0)) 67 (upd (h.1 67) 0 (nI e)) = hF h (upd (h.1 67) 0 (nI e)) (upd (flF (h.1 69) G (-1)) e 0) := by
      unfold hF
      rw [hsI_same, hsI_comm _ (by decide : (69 : Nat) ≠ 67)]
    exact hX _ (e5 ▸ l2 : ia_Run _ _ _ _ (41, _, _, hsI (hsI (hsI h 69 (flF (h.1 69) G (-1))) 69 (upd (flF (h.1 69) G (-1)) e 0)) 67 (upd (h.1 67) 0 (nI e))))) G 0 (by omega)
  rw [flF_0, hsI_eta] at l0
  exact hX _ l0
