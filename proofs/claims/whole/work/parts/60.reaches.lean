/-! the reference: reaches, rely, hanging -/
def hR (h : ia_H) (I Q : Nat → Int32) : ia_H := hsI (hsI h 66 I) 67 Q
theorem hR_66 (h : ia_H) (I Q I2 : Nat → Int32) : hsI (hR h I Q) 66 I2 = hR h I2 Q := by
  unfold hR
  rw [hsI_comm _ (by decide : (67 : Nat) ≠ 66), hsI_same]
theorem hR_67 (h : ia_H) (I Q Q2 : Nat → Int32) : hsI (hR h I Q) 67 Q2 = hR h I Q2 := hsI_same _ _ _ _
theorem l_rch1 (h : ia_H) (n G : Nat) (sd : Nat → Bool) (A B : Nat → Nat) (hd : mdOk h n G sd A B) (s0 : Nat) (hs0 : s0 < n) (e0 : Int32) (i a : Nat) (S0 : bsT) (h0 : bsOk G S0) (hi : i < S0.1.length) (ha : S0.1[i] = a) {Z : Option Value → ia_H → Prop}
    (hN : ∀ (I Q : Nat → Int32) (a4 a5 : Option Value), irOk G I (bsW (cst (sdO sd s0)) (csr A B) (cdt A B) tt a S0 240).1 → rwOk Q (bsW (cst (sdO sd s0)) (csr A B) (cdt A B) tt a S0 240).1 → R_ ia_k_X8_reaches Z (186, [some (.ref 52), some (.int e0), some (.int (nI s0)), some (.int (nI (bsW (cst (sdO sd s0)) (csr A B) (cdt A B) tt a S0 240).1.length)), some (.int (nI i)), a4, a5], [], hR h I Q)) :
    ∀ (k s : Nat), s + k = n → ∀ (S : bsT), S = bsW (cst (sdO sd s0)) (csr A B) (cdt A B) tt a S0 (2 * s) → ∀ (I Q : Nat → Int32) (a5 : Option Value), irOk G I S.1 → rwOk Q S.1 → R_ ia_k_X8_reaches Z (51, [some (.ref 52), some (.int e0), some (.int (nI s0)), some (.int (nI S.1.length)), some (.int (nI i)), some (.int (nI s)), a5], [], hR h I Q) := by
  have hdt0 : ∀ w, w < 240 → cst sd w = true → cdt A B w < G := fun w h1 h2 => (md_dt hd w h1 h2).1
  have hdt : ∀ w, w < 240 → cst (sdO sd s0) w = true → cdt A B w < G := fun w h1 h2 => hdt0 w h1 (sdO_i h2).1
  obtain ⟨hn, hG, eN, eG, hS, hsd⟩ := hd
  have hsd2 : ∀ s, n ≤ s → sdO sd s0 s = false := fun s hs => by simp [sdO, hsd s hs]
  have haS : a ∈ S0.1 := by rw [← ha]; exact List.getElem_mem hi
  have haG := (h0.2.1 a haS).1
  intro k
  induction k with
  | zero =>
    intro s hs S eS I Q a5 hI hQ
    have es : s = n := by omega
    subst es
    rw [← bsW_end hn hsd2] at eS
    refine ia_walk (fun pc => Nat.beq pc 186) 50 (fun X hX => ?_)
    conv => whnf
    refine And.intro (fun c => ?_) (fun c => ?_)
    · exact absurd (show nI s < h.1 52 10 from c) (by rw [eN]; exact nI_nlt (Nat.le_refl _) (by omega))
    · conv => whnf
      rw [eS] at hI hQ ⊢
      exact hX _ (hN I Q _ _ hI hQ)
  | succ k ih =>
    intro s hs S eS I Q a5 hI hQ
    have hlt : s < n := by omega
    obtain ⟨s1, s2, s3, s4, s5, s6⟩ := hS s hlt
    obtain ⟨okS, aS⟩ := bsW_ok (st := cst (sdO sd s0)) (sr := csr A B) (rm := tt) hdt h0 haS (2 * s) (by omega)
    rw [← eS] at okS aS
    have lenS := bsOk_len okS
    have hlS : S0.1.length ≤ S.1.length := by rw [eS]; exact bsW_len _
    have eQ : Q i = nI a := by
      obtain ⟨l, el⟩ := bsW_pre (cst (sdO sd s0)) (csr A B) (cdt A B) tt a S0 (2 * s)
      rw [hQ i (by omega)]
      have e1 : S.1[i]'(by omega) = a := by
        have : S.1[i]? = some a := by
          rw [eS, el, List.getElem?_append_left hi, List.getElem?_eq_getElem hi, ha]
        obtain ⟨_, q⟩ := List.getElem?_eq_some_iff.mp this
        exact q
      rw [e1]
    have b2 := bsW_2 (rm := tt) (a := a) (S := S0) (sd := sdO sd s0) s5
    rw [← eS] at b2
    obtain ⟨ev1, ev2, ev3⟩ := c_even sd A B s
    obtain ⟨od1, od2, od3⟩ := c_odd sd A B s
    have next : ∀ (S2 : bsT) (I2 Q2 : Nat → Int32) (a5 : Option Value), S2 = bsW (cst (sdO sd s0)) (csr A B) (cdt A B) tt a S0 (2 * (s + 1)) → irOk G I2 S2.1 → rwOk Q2 S2.1 → R_ ia_k_X8_reaches Z (180, [some (.ref 52), some (.int e0), some (.int (nI s0)), some (.int (nI S2.1.length)), some (.int (nI i)), some (.int (nI s)), a5], [], hR h I2 Q2) := by
      intro S2 I2 Q2 a5 h2 hI2 hQ2
      refine ia_walk (fun pc => Nat.beq pc 51) 50 (fun X hX => ?_)
      conv => whnf
      rw [nI_1]
      exact hX _ (ih (s + 1) (by omega) S2 h2 I2 Q2 a5 hI2 hQ2)
    have go : ∀ (t w : Nat), t < G → cdt A B w = t → bsW (cst (sdO sd s0)) (csr A B) (cdt A B) tt a S0 (2 * (s + 1)) = bsS tt (cdt A B) a S w → R_ ia_k_X8_reaches Z (146, [some (.ref 52), some (.int e0), some (.int (nI s0)), some (.int (nI S.1.length)), some (.int (nI i)), some (.int (nI s)), a5], [.int (nI t)], hR h I Q) := by
      intro t w ht hw eW
      refine ia_walk (fun pc => Nat.beq pc 180) 60 (fun X hX => ?_)
      conv => whnf
      refine Exists.intro _ (And.intro (And.intro rfl (by omega)) ?_)
      conv => whnf
      refine And.intro (fun c1 => ?_) (fun c1 => ?_)
      · have hni : ¬ t ∈ S.1 := fun q => by
          have := (hI t ht).1 q
          rw [show I t = 0 from c1] at this
          exact absurd this (by decide)
        have hcl : S.1.length < 41 := by
          have := bsOk_len (bsOk_put (w := nI w) okS aS hni ht)
          simp only [List.length_append, List.length_cons, List.length_nil] at this
          omega
        conv => whnf
        refine Exists.intro _ (And.intro (And.intro rfl (by omega)) ?_)
        conv => whnf
        refine Exists.intro _ (And.intro (And.intro rfl (by omega)) ?_)
        conv => whnf
        rw [nI_1]
        have e3 : bsS tt (cdt A B) a S w = (S.1 ++ [t], upd S.2.1 t (S.2.1 a + 1), upd S.2.2 t (nI w)) := by
          unfold bsS
          rw [hw, if_neg (fun q => q.elim hni (fun z => by cases z))]
        have hX2 := next (S.1 ++ [t], upd S.2.1 t (S.2.1 a + 1), upd S.2.2 t (nI w)) (upd I t 1) (upd Q S.1.length (nI t)) (some (.int (nI t))) (by rw [eW, e3]) (irOk_put hI t) (rwOk_put hQ t)
        simp only [List.length_append, List.length_cons, List.length_nil] at hX2
        have e5 : hsI (hsI (hR h I Q) 66 (upd I t (vp_nar .boolean 1))) 67 (upd Q S.1.length (nI t)) = hR h (upd I t 1) (upd Q S.1.length (nI t)) := by rw [nar1, hR_66, hR_67]
        rw [← e5] at hX2
        exact hX _ hX2
      · have hin : t ∈ S.1 := Classical.not_not.mp (fun q => c1 ((hI t ht).2 q))
        conv => whnf
        refine hX _ (next S I Q _ ?_ hI hQ)
        rw [eW]
        unfold bsS
        rw [hw, if_pos (Or.inl hin)]
    refine ia_walk (fun pc => Nat.beq pc 146 || Nat.beq pc 180) 80 (fun X hX => ?_)
    conv => whnf
    refine And.intro (fun c => ?_) (fun c => ?_)
    · conv => whnf
      refine And.intro (fun c0 => ?_) (fun c0 => ?_)
      · have hss : s = s0 := nI_inj (by omega) (by omega) c0
        rw [if_neg (show ¬ sdO sd s0 s = true from fun q => (sdO_i q).2 hss)] at b2
        conv => whnf
        exact hX _ (next S I Q _ b2.symm hI hQ)
      · have hss : s ≠ s0 := fun q => c0 (by rw [q])
        conv => whnf
        obtain ⟨x, ex, ev⟩ := ia_callN (f := Value.int) (m_isStanding (hR h I Q) s (by omega))
        refine Exists.intro (_, _) (And.intro ev ?_)
        have ex : x = bif sd s then 1 else 0 := by rw [ex, s6]; rfl
        conv => whnf
        refine And.intro (fun c1 => ?_) (fun c1 => ?_)
        · have hsf : sd s = false := by
            cases hq : sd s
            · rfl
            · rw [hq] at ex; rw [ex] at c1; exact absurd c1 (by decide)
          rw [if_neg (show ¬ sdO sd s0 s = true from fun q => by rw [(sdO_i q).1] at hsf; cases hsf)] at b2
          conv => whnf
          exact hX _ (next S I Q _ b2.symm hI hQ)
        · have hst : sd s = true := by
            cases hq : sd s
            · rw [hq] at ex; exact absurd ex c1
            · rfl
          rw [if_pos (sdO_t hst hss)] at b2
          conv => whnf
          refine Exists.intro _ (And.intro (And.intro rfl (by omega)) ?_)
          conv => whnf
          refine Exists.intro _ (And.intro (And.intro rfl (by omega)) ?_)
          conv => whnf
          refine And.intro (fun c2 => ?_) (fun c2 => ?_)
          · have hA : A s = a := nI_inj (by omega) (by omega) (s1.symm.trans ((show h.1 56 s = Q i from c2).trans eQ))
            rw [if_pos hA] at b2
            conv => whnf
            refine Exists.intro _ (And.intro (And.intro rfl (by omega)) ?_)
            conv => whnf
            refine Exists.intro _ (And.intro (And.intro rfl (by omega)) ?_)
            conv => whnf
            refine And.intro (fun c3 => ?_) (fun c3 => ?_)
            · conv => whnf
              refine Exists.intro _ (And.intro (And.intro rfl (by omega)) ?_)
              conv => whnf
              have g := go (B s) (2 * s) s4 ev3 b2
              rw [← s3] at g
              exact hX _ g
            · exact absurd c2 c3
          · have hA : ¬ A s = a := fun q => c2 (show h.1 56 s = Q i by rw [s1, eQ, q])
            rw [if_neg hA] at b2
            conv => whnf
            refine Exists.intro _ (And.intro (And.intro rfl (by omega)) ?_)
            conv => whnf
            refine Exists.intro _ (And.intro (And.intro rfl (by omega)) ?_)
            conv => whnf
            refine And.intro (fun c3 => ?_) (fun c3 => ?_)
            · have hB : B s = a := nI_inj (by omega) (by omega) (s3.symm.trans ((show h.1 57 s = Q i from c3).trans eQ))
              rw [if_pos hB] at b2
              conv => whnf
              refine Exists.intro _ (And.intro (And.intro rfl (by omega)) ?_)
              conv => whnf
              refine Exists.intro _ (And.intro (And.intro rfl (by omega)) ?_)
              conv => whnf
              refine And.intro (fun c4 => ?_) (fun c4 => ?_)
              · exact absurd c4 c2
              · conv => whnf
                refine Exists.intro _ (And.intro (And.intro rfl (by omega)) ?_)
                conv => whnf
                have g := go (A s) (2 * s + 1) s2 od3 b2
                rw [← s1] at g
                exact hX _ g
            · have hB : ¬ B s = a := fun q => c3 (show h.1 57 s = Q i by rw [s3, eQ, q])
              rw [if_neg hB] at b2
              conv => whnf
              exact hX _ (next S I Q _ b2.symm hI hQ)
    · exact absurd (show nI s < h.1 52 10 by rw [eN]; exact nI_lt hlt (by omega)) c
theorem l_rch2 (h : ia_H) (n G : Nat) (sd : Nat → Bool) (A B : Nat → Nat) (hd : mdOk h n G sd A B) (s0 : Nat) (hs0 : s0 < n) (e0 : Int32) {Z : Option Value → ia_H → Prop} : ∀ (k i : Nat) (S : bsT), 41 < i + k → i ≤ S.1.length → bsOk G S → (∀ I Q, irOk G I (bsR (cst (sdO sd s0)) (csr A B) (cdt A B) tt k i S).1 → Z (some (.int (nI (bsR (cst (sdO sd s0)) (csr A B) (cdt A B) tt k i S).1.length))) (hR h I Q)) → ∀ (I Q : Nat → Int32) (a4 a5 : Option Value), irOk G I S.1 → rwOk Q S.1 → R_ ia_k_X8_reaches Z (42, [some (.ref 52), some (.int e0), some (.int (nI s0)), some (.int (nI S.1.length)), some (.int (nI i)), a4, a5], [], hR h I Q) := by
  have hdt : ∀ w, w < 240 → cst (sdO sd s0) w = true → cdt A B w < G := fun w h1 h2 => (md_dt hd w h1 (sdO_i h2).1).1
  have hG := hd.2.1
  intro k
  induction k with
  | zero =>
    intro i S hk hi hok
    have := bsOk_len hok
    omega
  | succ k ih =>
    intro i S hk hi hok hZ I Q a4 a5 hI hQ
    have lenS := bsOk_len hok
    by_cases hlt : i < S.1.length
    · have ha : S.1[i] ∈ S.1 := List.getElem_mem hlt
      rw [bsR, dif_pos hlt] at hZ
      obtain ⟨a, hae⟩ : ∃ a, S.1[i] = a := ⟨_, rfl⟩
      rw [hae] at ha hZ
      obtain ⟨ok2, -⟩ := bsW_ok (st := cst (sdO sd s0)) (sr := csr A B) (rm := tt) hdt hok ha 240 (Nat.le_refl _)
      refine ia_walk (fun pc => Nat.beq pc 51) 80 (fun X hX => ?_)
      conv => whnf
      refine And.intro (fun c => ?_) (fun c => ?_)
      · have l1 := l_rch1 h n G sd A B hd s0 hs0 e0 i a S hok hlt hae (Z := Z) (fun I2 Q2 b4 b5 hI2 hQ2 => by
          refine ia_walk (fun pc => Nat.beq pc 42) 50 (fun X hX => ?_)
          conv => whnf
          rw [nI_1]
          exact hX _ (ih (i + 1) _ (by omega) (Nat.le_trans (by omega) (bsW_len 240)) ok2 hZ I2 Q2 _ _ hI2 hQ2)) n 0 (by omega) S rfl I Q a5 hI hQ
        conv => whnf
        exact hX _ (l1)
      · exact absurd (nI_lt hlt (by omega)) c
    · rw [bsR, dif_neg hlt] at hZ
      refine ia_walk (fun pc => Nat.beq pc 42) 80 (fun X hX => ?_)
      conv => whnf
      refine And.intro (fun c => ?_) (fun c => ?_)
      · exact absurd c (nI_nlt (by omega) (by omega))
      · conv => whnf
        exact hZ I Q hI
theorem l_rch0 (h : ia_H) (G : Nat) (hG : G ≤ 41) (eG : h.1 52 4 = nI G) (e b : Int32) {Z : Option Value → ia_H → Prop} (hN : ∀ w : Option Value, R_ ia_k_X8_reaches Z (23, [some (.ref 52), some (.int e), some (.int b), w, none, none, none], [], hsI h 66 (flF (h.1 66) G 0))) : ∀ k g : Nat, g + k = G → R_ ia_k_X8_reaches Z (2, [some (.ref 52), some (.int e), some (.int b), some (.int (nI g)), none, none, none], [], hsI h 66 (flF (h.1 66) g 0)) := by
  intro k
  induction k with
  | zero =>
    intro g hg
    have eg : g = G := by omega
    subst eg
    refine ia_walk (fun pc => Nat.beq pc 23) 50 (fun X hX => ?_)
    conv => whnf
    refine And.intro (fun c => ?_) (fun c => ?_)
    · exact absurd (show nI g < h.1 52 4 from c) (by rw [eG]; exact nI_nlt (Nat.le_refl g) (by omega))
    · conv => whnf
      exact hX _ (hN _)
  | succ k ih =>
    intro g hg
    refine ia_walk (fun pc => Nat.beq pc 2) 50 (fun X hX => ?_)
    conv => whnf
    refine And.intro (fun c => ?_) (fun c => ?_)
    · conv => whnf
      refine Exists.intro _ (And.intro (And.intro rfl (by omega)) ?_)
      conv => whnf
      rw [nI_1]
      have e : hsI (hsI h 66 (flF (h.1 66) g 0)) 66 (upd (flF (h.1 66) g 0) g (vp_nar .boolean 0)) = hsI h 66 (flF (h.1 66) (g + 1) 0) := by rw [nar0, hsI_same, flF_s]
      have nx := ih (g + 1) (by omega)
      rw [← e] at nx
      exact hX _ nx
    · exact absurd (show nI g < h.1 52 4 by rw [eG]; exact nI_lt (by omega) (by omega)) c
theorem m_reaches (h : ia_H) (n G : Nat) (sd : Nat → Bool) (A B : Nat → Nat) (hd : mdOk h n G sd A B) (e s0 : Nat) (he : e < G) (hs0 : s0 < n) : V_ 132 [.ref 52, .int (nI e), .int (nI s0)] h (fun r h' => r = some (.int (nI (chS (sdO sd s0) A B e).1.length)) ∧ ∃ I Q, irOk G I (chS (sdO sd s0) A B e).1 ∧ h' = hR h I Q) := by
  have hd0 := hd
  obtain ⟨hn, hG, eN, eG, hS, hsd⟩ := hd
  refine ia_V_in ia_k_X8_reaches [some (.ref 52), some (.int (nI e)), some (.int (nI s0)), none, none, none, none] rfl rfl (Nat.le_of_ble_eq_true rfl) rfl ?_
  refine ia_walk (fun pc => Nat.beq pc 2) 50 (fun X hX => ?_)
  conv => whnf
  have l0 := l_rch0 h G hG eG (nI e) (nI s0) (Z := fun r h' => r = some (.int (nI (chS (sdO sd s0) A B e).1.length)) ∧ ∃ I Q, irOk G I (chS (sdO sd s0) A B e).1 ∧ h' = hR h I Q) (fun w => by
    refine ia_walk (fun pc => Nat.beq pc 42) 50 (fun X hX => ?_)
    conv => whnf
    refine Exists.intro _ (And.intro (And.intro rfl (by omega)) ?_)
    conv => whnf
    refine Exists.intro (0) (And.intro (And.intro (rfl) (by omega)) ?_)
    conv => whnf
    have l2 := l_rch2 h n G sd A B hd0 s0 hs0 (nI e) (Z := fun r h' => r = some (.int (nI (chS (sdO sd s0) A B e).1.length)) ∧ ∃ I Q, irOk G I (chS (sdO sd s0) A B e).1 ∧ h' = hR h I Q) 42 0 (bsP e bs0) (by omega) (by omega) (bsP_ok (bs0_ok G) he (by simp [bs0])) (fun I Q h1 => ⟨rfl, I, Q, h1, rfl⟩) (upd (flF (h.1 66) G 0) e 1) (upd (h.1 67) 0 (nI e)) none none (irOk_put (q := []) (fun g hg => ⟨fun q => (List.not_mem_nil q).elim, fun _ => if_pos hg⟩) e) (rwOk_put (R := h.1 67) (q := []) (fun i hi => absurd hi (Nat.not_lt_zero i)) e)
    have e5 : hsI (hsI (hsI h 66 (flF (h.1 66) G 0)) 66 (upd (flF (h.1 66) G 0) e (vp_nar .boolean 1))) 67 (upd (h.1 67) 0 (nI e)) = hR h (upd (flF (h.1 66) G 0) e 1) (upd (h.1 67) 0 (nI e)) := by
      unfold hR
      rw [nar1, hsI_same]
    rw [← e5] at l2
    exact hX _ l2) G 0 (by omega)
  rw [flF_0, hsI_eta] at l0
  exact hX _ l0
theorem frS_R (h : ia_H) (I Q : Nat → Int32) : frS h (hR h I Q) := frS_tr (frS_I (by decide) I) (frS_I (by decide) Q)
theorem m_rely (h : ia_H) (n G : Nat) (sd : Nat → Bool) (A B : Nat → Nat) (hd : mdOk h n G sd A B) (hc : cnOk h G sd A B) (s : Nat) (hs : s < n) : V_ 134 [.ref 52, .int (nI s)] h (fun r h' => r = some (.int (rlM sd A B s)) ∧ frS h h') := by
  have hn := hd.1
  have hG := hd.2.1
  have eG := hd.2.2.2.1
  obtain ⟨s1, s2, s3, s4, s5, s6⟩ := hd.2.2.2.2.1 s hs
  have hg : grOk sd A B n G := ⟨hG, hn, hd.2.2.2.2.2, fun w h1 h2 => (md_dt hd w h1 h2).1⟩
  refine ia_V_in ia_k_X8_rely [some (.ref 52), some (.int (nI s)), none] rfl rfl (Nat.le_of_ble_eq_true rfl) rfl ?_
  refine ia_walk (fun _ => false) 60 (fun X hX => ?_)
  conv => whnf
  obtain ⟨x, ex, ev'⟩ := ia_callN (m_isStanding h s (by omega))
  refine Exists.intro (_, _) (And.intro ev' ?_)
  clear ev'
  have ex : x = bif sd s then 1 else 0 := by rw [ex, s6]
  conv => whnf
  refine And.intro (fun c1 => ?_) (fun c1 => ?_)
  · have hsf : sd s = false := by
      cases hq : sd s
      · rfl
      · rw [hq] at ex; rw [ex] at c1; exact absurd c1 (by decide)
    conv => whnf
    exact ⟨by unfold rlM; rw [hsf, if_neg (by decide)], frS_rfl h⟩
  · have hst : sd s = true := by
      cases hq : sd s
      · rw [hq] at ex; exact absurd ex c1
      · rfl
    conv => whnf
    refine Exists.intro _ (And.intro (And.intro rfl (by omega)) ?_)
    conv => whnf
    obtain ⟨r1, h1, ev1, z1, I, Q, z2, z3⟩ := m_reaches h n G sd A B hd (A s) s s2 hs
    rw [← s1] at ev1
    subst z1
    refine Exists.intro (_, _) (And.intro ev1 ?_)
    conv => whnf
    subst z3
    refine Exists.intro s (And.intro (And.intro rfl (by omega)) ?_)
    conv => whnf
    refine Exists.intro (B s) (And.intro (And.intro (s3) (by omega)) ?_)
    have hle := ch_le hg s2
    have hle2 := ch_le (grOk_O hg s) s2
    conv => whnf
    refine And.intro (fun c2 => ?_) (fun c2 => ?_)
    · have hni : ¬ B s ∈ (chS (sdO sd s) A B (A s)).1 := fun q => by
        have := (z2 (B s) s4).1 q
        rw [show I (B s) = 0 from c2] at this
        exact absurd this (by decide)
      conv => whnf
      refine Exists.intro _ (And.intro (And.intro rfl (by omega)) ?_)
      conv => whnf
      have ev2 := ia_callE (m_sizeOf (hR h I Q) (A s) G (by omega) hG eG)
      have e60 : (hR h I Q).1 56 s = nI (A s) := s1
      rw [← e60] at ev2
      refine Exists.intro (_, _) (And.intro ev2 ?_)
      have esz : ct (fun j => decide ((hR h I Q).1 60 j = (hR h I Q).1 60 (A s))) G = (chS sd A B (A s)).1.length := by
        rw [ch_len hg s2]
        refine ct_congr (fun j hj => ?_)
        have := hc j (A s) hj s2
        simp only [← this]
        rfl
      rw [esz]
      conv => whnf
      refine ⟨?_, frS_R h I Q⟩
      unfold rlM
      rw [if_pos hst, if_neg hni]
    · have hin : B s ∈ (chS (sdO sd s) A B (A s)).1 := Classical.not_not.mp (fun q => c2 ((z2 (B s) s4).2 q))
      conv => whnf
      refine ⟨?_, frS_R h I Q⟩
      unfold rlM
      rw [if_pos hst, if_pos hin]
