/-! Web.growTrees -/
theorem hB_o (h : ia_H) (R d b : Nat → Int32) (c : Nat) {y : Nat} (f : Nat → Int32) (h1 : y ≠ 29) (h2 : y ≠ 36) (h3 : y ≠ 37) (h4 : y ≠ 38) : hsI (hB h R d b c) y f = hB (hsI h y f) R d b c := by
  unfold hB
  rw [hsI_comm _ (Ne.symm h1), hsI_comm _ (Ne.symm h4), hsI_comm _ (Ne.symm h3), hsI_comm _ (Ne.symm h2), hsI_ne h f (Ne.symm h1)]
theorem tvOk_o {H : ia_H} {S : bsT} {sd : Nat → Bool} {A B : Nat → Nat} {m : Nat} (h : tvOk H S sd A B m) {y : Nat} (f : Nat → Int32) (h0 : y ≠ 30) (h1 : y ≠ 29) (h2 : y ≠ 36) (h3 : y ≠ 37) (h4 : y ≠ 38) : tvOk (hsI H y f) S sd A B m := by
  unfold tvOk
  rw [hsI_ne H f (Ne.symm h0), hsI_ne H f (Ne.symm h1), hsI_ne H f (Ne.symm h2), hsI_ne H f (Ne.symm h3), hsI_ne H f (Ne.symm h4)]
  exact h
theorem bsF_rm {st : Nat → Bool} {sr dt : Nat → Nat} {rm rm2 : Nat → Bool} (h : ∀ v, v < 240 → rm v = rm2 v) (g : Nat) (S : bsT) : bsF st sr dt rm g S = bsF st sr dt rm2 g S := bsR_rm h 42 S.1.length (bsP g S)
abbrev ftH (h : ia_H) (sd : Nat → Bool) (A B : Nat → Nat) (g : Nat) : bsT := ftS (cst sd) (csr A B) (cdt A B) (bsH (h0F h)) g
theorem l_grow1 (h : ia_H) (sd : Nat → Bool) (A B : Nat → Nat) (n m : Nat) (hg : grOk sd A B n m) (hw : wbOk h (cst sd) (csr A B) (cdt A B) m) {Z : Option Value → ia_H → Prop}
    (hZ : ∀ (on W R : Nat → Int32) (a2 : Option Value), (∀ x, x < m → on x = 0 ∧ W x = 1) → rwOk R (ftH h sd A B m).1 → R_ ia_k_X6_growTrees Z (60, [some (.ref 29), some (.int (nI m)), a2], [], hB (hsI (hsI (h0F h) 40 on) 41 W) R (ftH h sd A B m).2.1 (ftH h sd A B m).2.2 (ftH h sd A B m).1.length)) :
    ∀ (k g : Nat) (on W R : Nat → Int32), g + k = m → (∀ x, x < g → on x = 0 ∧ W x = 1) → rwOk R (ftH h sd A B g).1 → R_ ia_k_X6_growTrees Z (14, [some (.ref 29), some (.int (nI m)), some (.int (nI g))], [], hB (hsI (hsI (h0F h) 40 on) 41 W) R (ftH h sd A B g).2.1 (ftH h sd A B g).2.2 (ftH h sd A B g).1.length) := by
  have hm := hg.1
  intro k
  induction k with
  | zero =>
    intro g on W R hk hon hR
    have hk : g = m := by omega
    subst hk
    refine ia_walk (fun pc => Nat.beq pc 14 || Nat.beq pc 60) 60 (fun X hX => ?_)
    conv => whnf
    refine And.intro (fun c => ?_) (fun c => ?_)
    · exact absurd (show nI g < nI g from c) (nI_nlt (Nat.le_refl _) (by omega))
    · conv => whnf
      exact hX _ (hZ on W R _ hon hR)
  | succ k ih =>
    intro g on W R hk hon hR
    have hgm : g < m := by omega
    obtain ⟨⟨ok, f2, f3⟩, -⟩ := ftS_ok (sr := csr A B) hm hg.2.2.2 (bsH_ok (h0F h) m) rfl g (by omega)
    have ok : bsOk m (ftH h sd A B g) := ok
    have ih := ih (g + 1)
    rw [show ftH h sd A B (g + 1) = if g ∈ (ftH h sd A B g).1 then ftH h sd A B g else bsF (cst sd) (csr A B) (cdt A B) tt g (ftH h sd A B g) from rfl] at ih
    generalize hS : ftH h sd A B g = S at ok hR ih
    have hon2 : ∀ x, x < g + 1 → upd on g 0 x = 0 ∧ upd W g 1 x = 1 := fun x hx => by
      by_cases hxg : x = g
      · exact ⟨if_pos hxg, if_pos hxg⟩
      · obtain ⟨z1, z2⟩ := hon x (by omega)
        exact ⟨(show upd on g 0 x = on x from if_neg hxg).trans z1, (show upd W g 1 x = W x from if_neg hxg).trans z2⟩
    have e : hsI (hsI (hB (hsI (hsI (h0F h) 40 on) 41 W) R S.2.1 S.2.2 S.1.length) 40 (upd on g (vp_nar .boolean 0))) 41 (upd W g 1) = hB (hsI (hsI (h0F h) 40 (upd on g 0)) 41 (upd W g 1)) R S.2.1 S.2.2 S.1.length := by
      rw [nar0, hB_o _ _ _ _ _ _ (by decide) (by decide) (by decide) (by decide), hB_o _ _ _ _ _ _ (by decide) (by decide) (by decide) (by decide), hsI_comm _ (by decide : (41 : Nat) ≠ 40), hsI_same, hsI_same]
    refine ia_walk (fun pc => Nat.beq pc 14 || Nat.beq pc 60) 60 (fun X hX => ?_)
    conv => whnf
    refine And.intro (fun c => ?_) (fun c => ?_)
    · conv => whnf
      refine And.intro (fun c1 => ?_) (fun c1 => ?_)
      · conv => whnf
        refine Exists.intro _ (And.intro (And.intro rfl (by omega)) ?_)
        conv => whnf
        refine Exists.intro _ (And.intro (And.intro rfl (by omega)) ?_)
        conv => whnf
        refine Exists.intro _ (And.intro (And.intro rfl (by omega)) ?_)
        conv => whnf
        refine And.intro (fun c2 => ?_) (fun c2 => ?_)
        · have hni : ¬ g ∈ S.1 := (bsOk_in ok hm (by omega)).mp c2
          conv => whnf
          obtain ⟨r', h', ev, z1, R2, z2, z3⟩ := v_reachFrom (hsI (hsI (h0F h) 40 (upd on g 0)) 41 (upd W g 1)) (cst sd) (csr A B) (cdt A B) m hm hw g hgm S ok hni R hR
          rw [← e] at ev
          subst z1
          refine Exists.intro (_, h') (And.intro ev ?_)
          conv => whnf
          rw [nI_1]
          have eF : bsF (cst sd) (csr A B) (cdt A B) (rmF ((hsI (hsI (h0F h) 40 (upd on g 0)) 41 (upd W g 1)).1 39)) g S = bsF (cst sd) (csr A B) (cdt A B) tt g S := bsF_rm (rm_0 h) g S
          rw [eF] at z2 z3
          rw [if_neg hni] at ih
          rw [z3]
          exact hX _ (ih (upd on g 0) (upd W g 1) R2 (by omega) hon2 z2)
        · have hin : g ∈ S.1 := Classical.not_not.mp (fun q => c2 ((bsOk_in ok hm (by omega)).mpr q))
          conv => whnf
          rw [nI_1]
          rw [if_pos hin] at ih
          have nx := ih (upd on g 0) (upd W g 1) R (by omega) hon2 hR
          rw [← e] at nx
          exact hX _ nx
      · exact absurd ((nI_lt41 (by omega)).mpr (by omega)) c1
    · exact absurd (show nI g < nI m from nI_lt hgm (by omega)) c
/-- the rings of the statements below s are marked -/
def onI (S : bsT) (sd : Nat → Bool) (A B : Nat → Nat) (m s : Nat) (on : Nat → Int32) : Prop := ∀ g, g < m → (on g = 0 ∧ ∀ t, t < s → sd t = true → ntr m (fE S) (fT S) t → sb (fP A B S) (fE S) tt g (A t) = sb (fP A B S) (fE S) tt g (B t)) ∨ (on g = 1 ∧ ∃ t, t < s ∧ sd t = true ∧ ntr m (fE S) (fT S) t ∧ sb (fP A B S) (fE S) tt g (A t) ≠ sb (fP A B S) (fE S) tt g (B t))
theorem onI_k {S : bsT} {sd : Nat → Bool} {A B : Nat → Nat} {m s : Nat} {on : Nat → Int32} (h : onI S sd A B m s on) (hs : ¬ (sd s = true ∧ ntr m (fE S) (fT S) s)) : onI S sd A B m (s + 1) on := fun g hg => by
  rcases h g hg with ⟨h1, h2⟩ | ⟨h1, t, t1, t2⟩
  · refine Or.inl ⟨h1, fun t t1 t2 t3 => ?_⟩
    by_cases hts : t = s
    · rw [hts] at t2 t3
      exact absurd ⟨t2, t3⟩ hs
    · exact h2 t (by omega) t2 t3
  · exact Or.inr ⟨h1, t, by omega, t2⟩
theorem onI_p {S : bsT} {sd : Nat → Bool} {A B : Nat → Nat} {m s : Nat} {on on' : Nat → Int32} (h : onI S sd A B m s on) (h1 : sd s = true) (h2 : ntr m (fE S) (fT S) s) (ho : ∀ g, g < m → on' g = if (sb (fP A B S) (fE S) tt g (B s) != sb (fP A B S) (fE S) tt g (A s)) = true then 1 else on g) : onI S sd A B m (s + 1) on' := fun g hg => by
  by_cases hx : sb (fP A B S) (fE S) tt g (A s) = sb (fP A B S) (fE S) tt g (B s)
  · have eo : on' g = on g := by
      rw [ho g hg, hx, if_neg (by simp)]
    rw [eo]
    rcases h g hg with ⟨q1, q2⟩ | ⟨q1, t, t1, t2⟩
    · refine Or.inl ⟨q1, fun t t1 t2 t3 => ?_⟩
      by_cases hts : t = s
      · rw [hts]; exact hx
      · exact q2 t (by omega) t2 t3
    · exact Or.inr ⟨q1, t, by omega, t2⟩
  · refine Or.inr ⟨?_, s, by omega, h1, h2, hx⟩
    rw [ho g hg, if_pos (by
      rw [bne_iff_ne]
      exact fun q => hx q.symm)]
theorem l_grow2 {H : ia_H} {S : bsT} {sd : Nat → Bool} {A B : Nat → Nat} {n m : Nat} (h : tfOk S sd A B n m) (hv : ∀ on, tvOk (hsI H 40 on) S sd A B m) {Z : Option Value → ia_H → Prop}
    (hZ : ∀ (on : Nat → Int32) (a2 : Option Value), onI S sd A B m 120 on → R_ ia_k_X6_growTrees Z (112, [some (.ref 29), some (.int (nI m)), a2], [], hsI H 40 on)) :
    ∀ (k s : Nat) (on : Nat → Int32), s + k = 120 → onI S sd A B m s on → R_ ia_k_X6_growTrees Z (62, [some (.ref 29), some (.int (nI m)), some (.int (nI s))], [], hsI H 40 on) := by
  have ht := tf_trs h
  intro k
  induction k with
  | zero =>
    intro s on hk hon
    have hk : s = 120 := by omega
    subst hk
    refine ia_walk (fun pc => Nat.beq pc 62 || Nat.beq pc 112) 60 (fun X hX => ?_)
    conv => whnf
    refine And.intro (fun c => ?_) (fun c => ?_)
    · exact absurd (show nI 120 < 120 from c) (by decide)
    · conv => whnf
      exact hX _ (hZ on _ hon)
  | succ k ih =>
    intro s on hk hon
    have hs : s < 120 := by omega
    have ih := ih (s + 1)
    obtain ⟨m1, m2⟩ := mul2d s (by omega)
    refine ia_walk (fun pc => Nat.beq pc 62 || Nat.beq pc 112) 80 (fun X hX => ?_)
    conv => whnf
    refine And.intro (fun c => ?_) (fun c => ?_)
    · conv => whnf
      obtain ⟨v, ev, ev'⟩ := ia_callN (v_isStanding (hsI H 40 on) s hs)
      refine Exists.intro (_, _) (And.intro ev' ?_)
      clear ev'
      conv => whnf
      refine And.intro (fun c1 => ?_) (fun c1 => ?_)
      · conv => whnf
        rw [nI_1]
        refine hX _ (ih on (by omega) (onI_k hon (fun q => ?_)))
        have hsn : s < n := Classical.byContradiction (fun z => by rw [h.1.2.2.1 s (by omega)] at q; cases q.1)
        obtain ⟨a1, a2, a3⟩ := c_even sd A B s
        have l1 := (hv on).1 (2 * s) (by omega) (a1.trans q.1)
        rw [decide_eq_false (show ¬ (hsI H 40 on).1 30 (2 * s) = -1 by rw [l1.1]; exact nI_nm1 (by have := h.1.1; omega))] at ev
        rw [ev] at c1
        exact absurd c1 (by decide)
      · have h1 : sd s = true := by
          cases hq : sd s
          · have l1 := (hv on).2.1 s hs hq
            rw [decide_eq_true l1] at ev
            exact absurd ev c1
          · rfl
        have hsn : s < n := Classical.byContradiction (fun z => by rw [h.1.2.2.1 s (by omega)] at h1; cases h1)
        obtain ⟨hA, hB⟩ := h.2.1 s hsn
        conv => whnf
        obtain ⟨r', h', ev2, z1, v2, z2, z3⟩ := v_isInTree (hv on) h hsn h1
        subst z1 z2
        refine Exists.intro (_, _) (And.intro ev2 ?_)
        conv => whnf
        refine And.intro (fun c2 => ?_) (fun c2 => ?_)
        · obtain ⟨a1, a2, a3⟩ := c_even sd A B s
          obtain ⟨b1, b2, b3⟩ := c_odd sd A B s
          have l1 := ((hv on).1 (2 * s) (by omega) (a1.trans h1)).1
          have l2 := ((hv on).1 (2 * s + 1) (by omega) (b1.trans h1)).1
          rw [a3] at l1
          rw [b3] at l2
          conv => whnf
          refine Exists.intro (2 * s) (And.intro (And.intro (m1) (by omega)) ?_)
          conv => whnf
          refine Exists.intro (2 * s + 1) (And.intro (And.intro (m2) (by omega)) ?_)
          conv => whnf
          obtain ⟨r', h', ev3, y1, on', y2, y3⟩ := v_markRing hv h hB hA (ht.2.2.2 s hsn h1).symm on
          rw [← l1, ← l2] at ev3
          subst y1 y2
          refine Exists.intro (_, _) (And.intro ev3 ?_)
          conv => whnf
          rw [nI_1]
          exact hX _ (ih on' (by omega) (onI_p hon h1 (z3.mp c2) y3))
        · conv => whnf
          rw [nI_1]
          exact hX _ (ih on (by omega) (onI_k hon (fun q => c2 (z3.mpr q.2))))
    · exact absurd ((nI_lt120 (by omega)).mpr hs) c
theorem v_growTrees (h : ia_H) (n G : Nat) (sd : Nat → Bool) (A B : Nat → Nat) (hw : wOk h n G sd A B) : V_ 56 [.ref 29, .int (nI G)] h (fun r h' => r = none ∧ frS h h' ∧ ∀ s, s < 120 → h'.1 42 s = rlM sd A B s) := by
  obtain ⟨hd, -, -, -, hwb, hL, -⟩ := hw
  have hG := hd.2.1
  have hg : grOk sd A B n G := ⟨hG, hd.1, hd.2.2.2.2.2, fun w h1 h2 => (md_dt hd w h1 h2).1⟩
  have hA : ∀ s, s < n → A s < G ∧ B s < G := fun s hs => by
    obtain ⟨-, q1, -, q2, -⟩ := hd.2.2.2.2.1 s hs
    exact ⟨q1, q2⟩
  obtain ⟨f1, f2⟩ := ftS_ok (sr := csr A B) hG hg.2.2.2 (bsH_ok (h0F h) G) rfl G (Nat.le_refl _)
  have htf : tfOk (ftH h sd A B G) sd A B n G := ⟨hg, hA, f1, f2⟩
  refine ia_V_in ia_k_X6_growTrees [some (.ref 29), some (.int (nI G)), none] rfl rfl (Nat.le_of_ble_eq_true rfl) rfl ?_
  refine ia_walk (fun pc => Nat.beq pc 14) 60 (fun X hX => ?_)
  conv => whnf
  refine Exists.intro (_, _) (And.intro (ia_callE (v_fill_flow h 0)) ?_)
  conv => whnf
  refine Exists.intro (_, _) (And.intro (ia_callE (v_forget2 (h0F h))) ?_)
  conv => whnf
  have lp := l_grow1 h sd A B n G hg hwb (Z := fun r h' => r = none ∧ frS h h' ∧ ∀ s, s < 120 → h'.1 42 s = rlM sd A B s) (fun on W R a2 hon hR => ?_) G 0 ((h0F h).1 40) ((h0F h).1 41) ((h0F h).1 36) (by omega) (fun x hx => absurd hx (Nat.not_lt_zero x)) (fun i hi => absurd hi (Nat.not_lt_zero i))
  · rw [show hsI (hsI (h0F h) 40 ((h0F h).1 40)) 41 ((h0F h).1 41) = h0F h by rw [hsI_eta, hsI_eta]] at lp
    exact hX _ lp
  · generalize hS : ftH h sd A B G = S at htf hR ⊢
    generalize hH : hB (hsI (hsI (h0F h) 40 on) 41 W) R S.2.1 S.2.2 S.1.length = H
    have hv0 : tvOk H S sd A B G := by
      subst hH
      refine ⟨fun w h1 h2 => ?_, fun s h1 h2 => ?_, rfl, rfl, hR, ?_⟩
      · exact ⟨(hwb.1 w h1 h2).1, (hwb.1 w h1 h2).2.1⟩
      · exact hL s h1 h2
      · show upd ((hsI (hsI (h0F h) 40 on) 41 W).1 29) 7 (nI S.1.length) 7 = nI S.1.length
        exact if_pos rfl
    have hfr : frS h H := by
      subst hH
      refine frS_tr (frS_I (by decide) _) (frS_tr (frS_I (by decide) on) (frS_tr (frS_I (by decide) W) (frS_W (frW_hB ⟨fun _ _ _ _ _ _ _ => rfl, rfl⟩ _ _ _ _))))
    have h40 : H.1 40 = on := by subst hH; rfl
    have h41 : H.1 41 = W := by subst hH; rfl
    clear hH
    refine ia_walk (fun pc => Nat.beq pc 62) 60 (fun X hX => ?_)
    conv => whnf
    have l2 := l_grow2 (H := H) htf (fun on => tvOk_o hv0 on (by decide) (by decide) (by decide) (by decide) (by decide)) (Z := fun r h' => r = none ∧ frS h h' ∧ ∀ s, s < 120 → h'.1 42 s = rlM sd A B s) (fun on2 a2 hon2 => ?_) 120 0 (H.1 40) (by omega) (fun g hg => Or.inl ⟨by rw [h40]; exact (hon g hg).1, fun t ht => absurd ht (Nat.not_lt_zero t)⟩)
    · rw [hsI_eta] at l2
      exact hX _ l2
    · refine ia_walk (fun _ => false) 60 (fun X hX => ?_)
      conv => whnf
      have hv2 := tvOk_o hv0 (y := 40) on2 (by decide) (by decide) (by decide) (by decide) (by decide)
      have a1 := v_addUp (H := hsI H 40 on2) htf (fun W => tvOk_o hv2 W (by decide) (by decide) (by decide) (by decide) (by decide)) ((hsI H 40 on2).1 41) (fun x hx => by
        rw [hsI_ne H on2 (by decide), h41]
        exact (hon x hx).2)
      rw [hsI_eta] at a1
      obtain ⟨r1, h1, ev1, z1, W2, z2, z3⟩ := a1
      subst z1
      refine Exists.intro (_, _) (And.intro ev1 ?_)
      conv => whnf
      subst z2
      have hn := hd.1
      obtain ⟨r2, h2, ev2, y1, R2, y2, y3⟩ := v_fillRely (H := hsI (hsI H 40 on2) 41 W2) htf (fun R => tvOk_o (tvOk_o hv2 W2 (by decide) (by decide) (by decide) (by decide) (by decide)) R (by decide) (by decide) (by decide) (by decide) (by decide)) (fun x hx => z3 x hx) (fun g hg => by
        rcases hon2 g hg with ⟨q1, q2⟩ | ⟨q1, t, t1, t2, t3⟩
        · exact Or.inl ⟨q1, fun t t1 => q2 t (by omega)⟩
        · refine Or.inr ⟨q1, t, Classical.byContradiction (fun z => ?_), t2, t3⟩
          rw [hd.2.2.2.2.2 t (by omega)] at t2
          cases t2)
      subst y1
      refine Exists.intro (_, _) (And.intro ev2 ?_)
      conv => whnf
      subst y2
      refine ⟨rfl, frS_tr hfr (frS_tr (frS_I (by decide) on2) (frS_tr (frS_I (by decide) W2) (frS_I (by decide) R2))), fun s hs => ?_⟩
      exact y3 s hs
