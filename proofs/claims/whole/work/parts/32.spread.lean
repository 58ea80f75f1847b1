/-! The reference's canGo and spreads -/
theorem nar1 : vp_nar .boolean 1 = 1 := by decide
theorem nar0 : vp_nar .boolean 0 = 0 := by decide
theorem rmF_even (fl : Nat → Int32) (s : Nat) : rmF fl (2 * s) = decide (fl s < 1) := by
  unfold rmF
  rw [if_pos (by omega), show 2 * s / 2 = s by omega]
theorem rmF_odd (fl : Nat → Int32) (s : Nat) : rmF fl (2 * s + 1) = decide (-1 < fl s) := by
  unfold rmF
  rw [if_neg (by omega), show (2 * s + 1) / 2 = s by omega]
def cgF (sd : Nat → Bool) (A B : Nat → Nat) (fl : Nat → Int32) (s g : Nat) : Bool := sd s && (bif decide (A s = g) then rmF fl (2 * s) else (decide (B s = g) && rmF fl (2 * s + 1)))
theorem m_canGo (h : ia_H) (n G : Nat) (sd : Nat → Bool) (A B : Nat → Nat) (hd : mdOk h n G sd A B) (s g : Nat) (hs : s < n) (hg : g < G) : V_ 154 [.ref 52, .int (nI s), .int (nI g)] h (Z_ (.int (bif cgF sd A B (h.1 72) s g then 1 else 0)) h) := by
  obtain ⟨hn, hG, eN, eG, hS, hsd⟩ := hd
  obtain ⟨s1, s2, s3, s4, s5, s6⟩ := hS s hs
  refine ia_V_in ia_k_X8_canGo [some (.ref 52), some (.int (nI s)), some (.int (nI g))] rfl rfl (Nat.le_of_ble_eq_true rfl) rfl ?_
  refine ia_walk (fun _ => false) 90 (fun X hX => ?_)
  conv => whnf
  obtain ⟨x, ex, ev⟩ := ia_callN (f := Value.int) (m_isStanding h s (by omega))
  refine Exists.intro (_, _) (And.intro ev ?_)
  have ex : x = bif sd s then 1 else 0 := by rw [ex, s6]
  conv => whnf
  refine And.intro (fun c1 => ?_) (fun c1 => ?_)
  · have hsf : sd s = false := by
      cases hq : sd s
      · rfl
      · rw [hq] at ex; rw [ex] at c1; exact absurd c1 (by decide)
    conv => whnf
    exact ⟨Or.inl rfl, by simp only [cgF, hsf, Bool.false_and]; rfl, rfl⟩
  · have hst : sd s = true := by
      cases hq : sd s
      · rw [hq] at ex; exact absurd ex c1
      · rfl
    conv => whnf
    refine Exists.intro _ (And.intro (And.intro rfl (by omega)) ?_)
    conv => whnf
    refine And.intro (fun c2 => ?_) (fun c2 => ?_)
    · have hA : A s = g := nI_inj (by omega) (by omega) (s1.symm.trans c2)
      conv => whnf
      refine Exists.intro _ (And.intro (And.intro rfl (by omega)) ?_)
      conv => whnf
      refine And.intro (fun c3 => ?_) (fun c3 => ?_)
      · conv => whnf
        exact ⟨Or.inr rfl, by simp only [cgF, hst, decide_eq_true hA, rmF_even, decide_eq_true (show h.1 72 s < 1 from c3), Bool.true_and, cond_true], rfl⟩
      · conv => whnf
        exact ⟨Or.inl rfl, by simp only [cgF, hst, decide_eq_true hA, rmF_even, decide_eq_false (show ¬ h.1 72 s < 1 from c3), Bool.true_and, cond_true]; rfl, rfl⟩
    · have hA : ¬ A s = g := fun q => c2 (by show h.1 56 s = nI g; rw [s1, q])
      conv => whnf
      refine Exists.intro _ (And.intro (And.intro rfl (by omega)) ?_)
      conv => whnf
      refine And.intro (fun c3 => ?_) (fun c3 => ?_)
      · have hB : B s = g := nI_inj (by omega) (by omega) (s3.symm.trans c3)
        conv => whnf
        refine Exists.intro _ (And.intro (And.intro rfl (by omega)) ?_)
        conv => whnf
        refine And.intro (fun c4 => ?_) (fun c4 => ?_)
        · conv => whnf
          exact ⟨Or.inr rfl, by simp only [cgF, hst, decide_eq_false hA, decide_eq_true hB, rmF_odd, decide_eq_true (show -1 < h.1 72 s from c4), Bool.true_and, cond_false, cond_true], rfl⟩
        · conv => whnf
          exact ⟨Or.inl rfl, by simp only [cgF, hst, decide_eq_false hA, decide_eq_true hB, rmF_odd, decide_eq_false (show ¬ -1 < h.1 72 s from c4), Bool.true_and, cond_false], rfl⟩
      · have hB : ¬ B s = g := fun q => c3 (by show h.1 57 s = nI g; rw [s3, q])
        conv => whnf
        exact ⟨Or.inl rfl, by simp only [cgF, hst, decide_eq_false hA, decide_eq_false hB, Bool.false_and, Bool.true_and, cond_false], rfl⟩
/-- the heap with isReached, queue, cameBy put in -/
def hC (h : ia_H) (I Q C : Nat → Int32) : ia_H := hsI (hsI (hsI h 66 I) 67 Q) 73 C
theorem hC_66 (h : ia_H) (I Q C I2 : Nat → Int32) : hsI (hC h I Q C) 66 I2 = hC h I2 Q C := by
  unfold hC
  rw [hsI_comm _ (by decide : (73 : Nat) ≠ 66), hsI_comm _ (by decide : (67 : Nat) ≠ 66), hsI_same]
theorem hC_67 (h : ia_H) (I Q C Q2 : Nat → Int32) : hsI (hC h I Q C) 67 Q2 = hC h I Q2 C := by
  unfold hC
  rw [hsI_comm _ (by decide : (73 : Nat) ≠ 67), hsI_same]
theorem hC_73 (h : ia_H) (I Q C C2 : Nat → Int32) : hsI (hC h I Q C) 73 C2 = hC h I Q C2 := hsI_same _ _ _ _
/-- isReached says what is reached -/
def irOk (G : Nat) (I : Nat → Int32) (q : List Nat) : Prop := ∀ g, g < G → (g ∈ q → I g = 1) ∧ (¬ g ∈ q → I g = 0)
theorem irOk_put {G : Nat} {I : Nat → Int32} {q : List Nat} (h : irOk G I q) (t : Nat) : irOk G (upd I t 1) (q ++ [t]) := by
  intro g hg
  simp only [upd]
  by_cases e : g = t
  · subst e
    rw [if_pos rfl]
    exact ⟨fun _ => rfl, fun z => absurd (List.mem_append_right _ (List.mem_singleton.mpr rfl)) z⟩
  · rw [if_neg e]
    refine ⟨fun z => (h g hg).1 ?_, fun z => (h g hg).2 (fun y => z (List.mem_append_left _ y))⟩
    rcases List.mem_append.mp z with y | y
    · exact y
    · exact absurd (List.mem_singleton.mp y) e
/-- cameBy says by which statement -/
def cbOk (C b : Nat → Int32) (q : List Nat) : Prop := ∀ g, g ∈ q → ∀ w, w < 240 → b g = nI w → C g = nI (w / 2)
theorem cbOk_put {C b : Nat → Int32} {q : List Nat} (h : cbOk C b q) {t w : Nat} (hw : w < 240) (ht : ¬ t ∈ q) : cbOk (upd C t (nI (w / 2))) (upd b t (nI w)) (q ++ [t]) := by
  intro g hg v hv e
  simp only [upd] at e ⊢
  by_cases eg : g = t
  · rw [if_pos eg] at e ⊢
    rw [nI_inj (by omega) (by omega) e]
  · rw [if_neg eg] at e ⊢
    rcases List.mem_append.mp hg with y | y
    · exact h g y v hv e
    · exact absurd (List.mem_singleton.mp y) eg
theorem l_spr1 (h : ia_H) (n G : Nat) (sd : Nat → Bool) (A B : Nat → Nat) (hd : mdOk h n G sd A B) (e0 : Int32) (i a : Nat) (S0 : bsT) (h0 : bsOk G S0) (hi : i < S0.1.length) (ha : S0.1[i] = a) {Z : Option Value → ia_H → Prop}
    (hN : ∀ (I Q C : Nat → Int32) (a4 a5 : Option Value), irOk G I (bsW (cst sd) (csr A B) (cdt A B) (rmF (h.1 72)) a S0 240).1 → rwOk Q (bsW (cst sd) (csr A B) (cdt A B) (rmF (h.1 72)) a S0 240).1 → cbOk C (bsW (cst sd) (csr A B) (cdt A B) (rmF (h.1 72)) a S0 240).2.2 (bsW (cst sd) (csr A B) (cdt A B) (rmF (h.1 72)) a S0 240).1 → R_ ia_k_X8_spreads Z (158, [some (.ref 52), some (.int e0), some (.int (nI (bsW (cst sd) (csr A B) (cdt A B) (rmF (h.1 72)) a S0 240).1.length)), some (.int (nI i)), a4, a5], [], hC h I Q C)) :
    ∀ (k s : Nat), s + k = n → ∀ (S : bsT), S = bsW (cst sd) (csr A B) (cdt A B) (rmF (h.1 72)) a S0 (2 * s) → ∀ (I Q C : Nat → Int32) (a5 : Option Value), irOk G I S.1 → rwOk Q S.1 → cbOk C S.2.2 S.1 → R_ ia_k_X8_spreads Z (49, [some (.ref 52), some (.int e0), some (.int (nI S.1.length)), some (.int (nI i)), some (.int (nI s)), a5], [], hC h I Q C) := by
  have hd0 := hd
  obtain ⟨hn, hG, eN, eG, hS, hsd⟩ := hd
  have haS : a ∈ S0.1 := by rw [← ha]; exact List.getElem_mem hi
  have haG := (h0.2.1 a haS).1
  have hdt : ∀ w, w < 240 → cst sd w = true → cdt A B w < G := by
    intro w hw hs
    have h1 : w / 2 < n := by
      rcases Nat.lt_or_ge (w / 2) n with q | q
      · exact q
      · have : sd (w / 2) = true := hs
        rw [hsd _ q] at this; cases this
    obtain ⟨-, q2, -, q4, -⟩ := hS _ h1
    unfold cdt
    split
    · exact q4
    · exact q2
  intro k
  induction k with
  | zero =>
    intro s hs S eS I Q C a5 hI hQ hC0
    have es : s = n := by omega
    subst es
    rw [← bsW_end hn hsd] at eS
    refine ia_walk (fun pc => Nat.beq pc 158) 50 (fun X hX => ?_)
    conv => whnf
    refine And.intro (fun c => ?_) (fun c => ?_)
    · exact absurd (show nI s < h.1 52 10 from c) (by rw [eN]; exact nI_nlt (Nat.le_refl _) (by omega))
    · conv => whnf
      rw [eS] at hI hQ hC0 ⊢
      exact hX _ (hN I Q C _ _ hI hQ hC0)
  | succ k ih =>
    intro s hs S eS I Q C a5 hI hQ hC0
    have hlt : s < n := by omega
    obtain ⟨s1, s2, s3, s4, s5, s6⟩ := hS s hlt
    obtain ⟨okS, aS⟩ := bsW_ok (st := cst sd) (sr := csr A B) (rm := rmF (h.1 72)) hdt h0 haS (2 * s) (by omega)
    rw [← eS] at okS aS
    have lenS := bsOk_len okS
    have hlS : S0.1.length ≤ S.1.length := by rw [eS]; exact bsW_len _
    have eQ : Q i = nI a := by
      obtain ⟨l, el⟩ := bsW_pre (cst sd) (csr A B) (cdt A B) (rmF (h.1 72)) a S0 (2 * s)
      rw [hQ i (by omega)]
      have e1 : S.1[i]'(by omega) = a := by
        have : S.1[i]? = some a := by
          rw [eS, el, List.getElem?_append_left hi, List.getElem?_eq_getElem hi, ha]
        obtain ⟨_, q⟩ := List.getElem?_eq_some_iff.mp this
        exact q
      rw [e1]
    have b2 := bsW_2 (rm := rmF (h.1 72)) (a := a) (S := S0) (sd := sd) s5
    rw [← eS] at b2
    obtain ⟨ev1, ev2, ev3⟩ := c_even sd A B s
    obtain ⟨od1, od2, od3⟩ := c_odd sd A B s
    have next : ∀ (S2 : bsT) (I2 Q2 C2 : Nat → Int32) (a5 : Option Value), S2 = bsW (cst sd) (csr A B) (cdt A B) (rmF (h.1 72)) a S0 (2 * (s + 1)) → irOk G I2 S2.1 → rwOk Q2 S2.1 → cbOk C2 S2.2.2 S2.1 → R_ ia_k_X8_spreads Z (152, [some (.ref 52), some (.int e0), some (.int (nI S2.1.length)), some (.int (nI i)), some (.int (nI s)), a5], [], hC h I2 Q2 C2) := by
      intro S2 I2 Q2 C2 a5 h2 hI2 hQ2 hC2
      refine ia_walk (fun pc => Nat.beq pc 49) 50 (fun X hX => ?_)
      conv => whnf
      rw [nI_1]
      exact hX _ (ih (s + 1) (by omega) S2 h2 I2 Q2 C2 a5 hI2 hQ2 hC2)
    have go : ∀ (t w : Nat), t < G → w < 240 → w / 2 = s → cdt A B w = t → rmF (h.1 72) w = true → bsW (cst sd) (csr A B) (cdt A B) (rmF (h.1 72)) a S0 (2 * (s + 1)) = bsS (rmF (h.1 72)) (cdt A B) a S w → R_ ia_k_X8_spreads Z (109, [some (.ref 52), some (.int e0), some (.int (nI S.1.length)), some (.int (nI i)), some (.int (nI s)), a5], [.int (nI t)], hC h I Q C) := by
      intro t w ht hw240 hw2 hw hrm eW
      refine ia_walk (fun pc => Nat.beq pc 152) 60 (fun X hX => ?_)
      conv => whnf
      refine Exists.intro _ (And.intro (And.intro rfl (by omega)) ?_)
      conv => whnf
      refine And.intro (fun c1 => ?_) (fun c1 => ?_)
      · have hni : ¬ t ∈ S.1 := fun q => by
          have := (hI t ht).1 q
          rw [show I t = 0 from c1] at this
          exact absurd this (by decide)
        have hcl : S.1.length < 41 := by
          have := bsOk_len (bsOk_put (w := nI w) okS aS hni ht)
          simp only [List.length_append, List.length_cons, List.length_nil] at this
          omega
        conv => whnf
        refine Exists.intro _ (And.intro (And.intro rfl (by omega)) ?_)
        conv => whnf
        refine Exists.intro _ (And.intro (And.intro rfl (by omega)) ?_)
        conv => whnf
        refine Exists.intro _ (And.intro (And.intro rfl (by omega)) ?_)
        conv => whnf
        rw [nI_1]
        have e3 : bsS (rmF (h.1 72)) (cdt A B) a S w = (S.1 ++ [t], upd S.2.1 t (S.2.1 a + 1), upd S.2.2 t (nI w)) := by
          unfold bsS
          rw [hw, if_neg (fun q => q.elim hni (fun z => by rw [hrm] at z; cases z))]
        have hX2 := next (S.1 ++ [t], upd S.2.1 t (S.2.1 a + 1), upd S.2.2 t (nI w)) (upd I t 1) (upd Q S.1.length (nI t)) (upd C t (nI s)) (some (.int (nI t))) (by rw [eW, e3]) (irOk_put hI t) (rwOk_put hQ t) (by rw [← hw2]; exact cbOk_put hC0 hw240 hni)
        simp only [List.length_append, List.length_cons, List.length_nil] at hX2
        have e5 : hsI (hsI (hsI (hC h I Q C) 66 (upd I t (vp_nar .boolean 1))) 73 (upd C t (nI s))) 67 (upd Q S.1.length (nI t)) = hC h (upd I t 1) (upd Q S.1.length (nI t)) (upd C t (nI s)) := by rw [nar1, hC_66, hC_73, hC_67]
        exact hX _ (e5 ▸ hX2 : ia_Run _ _ _ _ (152, _, _, hsI (hsI (hsI (hC h I Q C) 66 (upd I t (vp_nar .boolean 1))) 73 (upd C t (nI s))) 67 (upd Q S.1.length (nI t))))
      · have hin : t ∈ S.1 := Classical.not_not.mp (fun q => c1 ((hI t ht).2 q))
        conv => whnf
        refine hX _ (next S I Q C _ ?_ hI hQ hC0)
        rw [eW]
        unfold bsS
        rw [hw, if_pos (Or.inl hin)]
    refine ia_walk (fun pc => Nat.beq pc 109 || Nat.beq pc 152) 80 (fun X hX => ?_)
    conv => whnf
    refine And.intro (fun c => ?_) (fun c => ?_)
    · conv => whnf
      refine Exists.intro _ (And.intro (And.intro rfl (by omega)) ?_)
      conv => whnf
      obtain ⟨x, ex, ev⟩ := ia_callN (f := Value.int) (m_canGo (hC h I Q C) n G sd A B hd0 s a hlt haG)
      rw [← eQ] at ev
      refine Exists.intro (_, _) (And.intro ev ?_)
      have ex : x = bif cgF sd A B (h.1 72) s a then 1 else 0 := ex
      conv => whnf
      refine And.intro (fun c1 => ?_) (fun c1 => ?_)
      · have hf : cgF sd A B (h.1 72) s a = false := by
          cases hq : cgF sd A B (h.1 72) s a
          · rfl
          · rw [hq] at ex; rw [ex] at c1; exact absurd c1 (by decide)
        conv => whnf
        refine hX _ (next S I Q C _ ?_ hI hQ hC0)
        rw [b2]
        unfold cgF at hf
        by_cases hst : sd s = true
        · rw [if_pos hst]
          rw [hst, Bool.true_and] at hf
          by_cases hA : A s = a
          · rw [if_pos hA]
            rw [decide_eq_true hA, cond_true] at hf
            unfold bsS
            rw [if_pos (Or.inr hf)]
          · rw [if_neg hA]
            rw [decide_eq_false hA, cond_false] at hf
            by_cases hB : B s = a
            · rw [if_pos hB]
              rw [decide_eq_true hB, Bool.true_and] at hf
              unfold bsS
              rw [if_pos (Or.inr hf)]
            · rw [if_neg hB]
        · rw [if_neg hst]
      · have hf : cgF sd A B (h.1 72) s a = true := by
          cases hq : cgF sd A B (h.1 72) s a
          · rw [hq] at ex; exact absurd ex c1
          · rfl
        unfold cgF at hf
        rw [Bool.and_eq_true] at hf
        obtain ⟨hst, hf⟩ := hf
        rw [if_pos hst] at b2
        conv => whnf
        refine Exists.intro _ (And.intro (And.intro rfl (by omega)) ?_)
        conv => whnf
        refine Exists.intro _ (And.intro (And.intro rfl (by omega)) ?_)
        conv => whnf
        refine And.intro (fun c2 => ?_) (fun c2 => ?_)
        · have hA : A s = a := nI_inj (by omega) (by omega) (s1.symm.trans ((show h.1 56 s = Q i from c2).trans eQ))
          rw [if_pos hA] at b2
          rw [decide_eq_true hA, cond_true] at hf
          conv => whnf
          refine Exists.intro _ (And.intro (And.intro rfl (by omega)) ?_)
          conv => whnf
          have g := go (B s) (2 * s) s4 (by omega) (by omega) ev3 hf b2
          rw [← s3] at g
          exact hX _ g
        · have hA : ¬ A s = a := fun q => c2 (show h.1 56 s = Q i by rw [s1, eQ, q])
          rw [if_neg hA] at b2
          rw [decide_eq_false hA, cond_false, Bool.and_eq_true] at hf
          have hB : B s = a := of_decide_eq_true hf.1
          rw [if_pos hB] at b2
          conv => whnf
          refine Exists.intro _ (And.intro (And.intro rfl (by omega)) ?_)
          conv => whnf
          have g := go (A s) (2 * s + 1) s2 (by omega) (by omega) od3 hf.2 b2
          rw [← s1] at g
          exact hX _ g
    · exact absurd (show nI s < h.1 52 10 by rw [eN]; exact nI_lt hlt (by omega)) c
